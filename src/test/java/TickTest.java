/** Promise 3. */
final class TickTest {
    private static final Checks CHECKS = new Checks();

    public static void main(String[] args) {
        clockIsAnsweredAndCarried();
        wrongMembers();
        for (int slow = 0; slow < 3; slow++) {
            for (int member = 0; member < 3; member++) {
                if (member != slow) {
                    twentyToOneOfTheOthers(member, slow);
                }
            }
        }
        copiesCountToo();
        othersThingsDoNotCount();
        CHECKS.finish();
    }

    private static void clockIsAnsweredAndCarried() {
        OrderedRoom room = new OrderedRoom();
        CHECKS.due("tick(2)", room.tick(2), 1);
        CHECKS.due("tick(2)", room.tick(2), 2);
        CHECKS.due("take(2, 0)", room.take(2, 0), 0);
        CHECKS.due("take(2, 0)", room.take(2, 0), 0);
        CHECKS.due("tick(0)", room.tick(0), 4);
        CHECKS.due("state", Checks.stateOf(room), "[clock 4 held 0 read waiting -1 1 1]"
                + "[clock 0 held 0 read waiting 0 -1 0]"
                + "[clock 2 held 0 read waiting 0 2 -1]");
        CHECKS.due("number of the first message", room.write(1), 0);
    }

    private static void wrongMembers() {
        OrderedRoom room = Checks.roomOfThree();
        String before = Checks.stateOf(room);
        for (int member : Checks.NO_MEMBERS) {
            CHECKS.due("tick(" + member + ")", room.tick(member), -1);
        }
        CHECKS.due("state after refusals", Checks.stateOf(room), before);
    }

    private static void twentyToOneOfTheOthers(int member, int slow) {
        OrderedRoom room = new OrderedRoom();
        int quick = 3 - member - slow;
        for (int i = 1; i <= 20; i++) {
            CHECKS.due("tick " + i + " of " + member, room.tick(member), i);
            room.take(member, quick);
        }
        String before = Checks.stateOf(room);
        CHECKS.due("tick 21 of " + member + " with " + slow + " slow", room.tick(member), -1);
        CHECKS.due("state after the refusal", Checks.stateOf(room), before);
        CHECKS.due("take", room.take(member, slow), 0);
        CHECKS.due("tick after one was taken", room.tick(member), 21);
        CHECKS.due("tick at twenty again", room.tick(member), -1);
    }

    private static void copiesCountToo() {
        OrderedRoom room = new OrderedRoom();
        for (int i = 0; i < 19; i++) {
            room.write(1);
        }
        CHECKS.due("tick after 19 copies", room.tick(1), 20);
        CHECKS.due("tick after 20 things", room.tick(1), -1);
        CHECKS.due("write after 20 things", room.write(1), 19);
        room.take(1, 0);
        room.take(1, 2);
        CHECKS.due("tick at 20 of 21 things", room.tick(1), -1);
        for (int i = 0; i < 20; i++) {
            room.write(1);
        }
        CHECKS.due("tick at 40 things", room.tick(1), -1);
    }

    private static void othersThingsDoNotCount() {
        OrderedRoom room = new OrderedRoom();
        for (int i = 0; i < 20; i++) {
            room.write(1);
            room.write(2);
        }
        CHECKS.due("waiting(1, 0)", room.waiting(1, 0), 20);
        CHECKS.due("tick(0) with full ways to it", room.tick(0), 1);
        CHECKS.due("tick(1)", room.tick(1), -1);
    }
}
