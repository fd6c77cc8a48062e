/** Promise 10. No run of calls leads to 0: what every member reads is a beginning of the one order of stamps. */
final class AgreeTest {
    private static final Checks CHECKS = new Checks();

    public static void main(String[] args) {
        OrderedRoom room = new OrderedRoom();
        allAgree("nothing read", room);
        room = Rooms.after(Rooms.THREE);
        room.take(1, 0);
        room.take(2, 0);
        allAgree("read 2, 0 and 0", room);
        room.take(0, 1);
        room.take(2, 1);
        CHECKS.due("count(1)", room.count(1), 1);
        allAgree("read 2, 1 and 0", room);
        room.tick(0);
        room.take(0, 1);
        CHECKS.due("count(1)", room.count(1), 3);
        allAgree("read 2, 3 and 0", room);
        room.tick(1);
        room.take(1, 0);
        CHECKS.due("count(0)", room.count(0), 3);
        allAgree("read 3, 3 and 0", room);
        for (int member = 0; member < 3; member++) {
            for (int wrong : Checks.NO_MEMBERS) {
                CHECKS.due("agree(" + wrong + ", " + member + ")", room.agree(wrong, member), -1);
                CHECKS.due("agree(" + member + ", " + wrong + ")", room.agree(member, wrong), -1);
                CHECKS.due("agree(" + wrong + ", " + wrong + ")", room.agree(wrong, wrong), -1);
            }
        }
        CHECKS.finish();
    }

    private static void allAgree(String when, OrderedRoom room) {
        for (int a = 0; a < 3; a++) {
            for (int b = 0; b < 3; b++) {
                CHECKS.due("agree(" + a + ", " + b + ") with " + when, room.agree(a, b), 1);
            }
        }
    }
}
