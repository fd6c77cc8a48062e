/** Promise 5, ordinary use; the boundary cases stand in WaitingEdgeTest. */
final class WaitingTest {
    public static void main(String[] args) {
        Checks checks = new Checks();
        OrderedRoom room = new OrderedRoom();
        checks.due("waiting(0, 1) of a new object", room.waiting(0, 1), 0);
        room.write(0);
        room.tick(0);
        room.tick(1);
        checks.due("waiting(0, 1)", room.waiting(0, 1), 2);
        checks.due("waiting(0, 2)", room.waiting(0, 2), 2);
        checks.due("waiting(1, 0)", room.waiting(1, 0), 1);
        checks.due("waiting(1, 2)", room.waiting(1, 2), 1);
        checks.due("waiting(2, 0)", room.waiting(2, 0), 0);
        checks.due("waiting(2, 1)", room.waiting(2, 1), 0);
        room.take(0, 2);
        checks.due("waiting(0, 2) after a take", room.waiting(0, 2), 1);
        checks.due("waiting(0, 1) after the other's take", room.waiting(0, 1), 2);
        room.take(0, 2);
        checks.due("waiting(0, 2) after all takes", room.waiting(0, 2), 0);
        for (int member = 0; member < 3; member++) {
            checks.due("waiting from and to " + member, room.waiting(member, member), -1);
            for (int wrong : Checks.NO_MEMBERS) {
                checks.due("waiting(" + wrong + ", " + member + ")", room.waiting(wrong, member), -1);
                checks.due("waiting(" + member + ", " + wrong + ")", room.waiting(member, wrong), -1);
            }
        }
        checks.due("waiting(3, 3)", room.waiting(3, 3), -1);
        checks.finish();
    }
}
