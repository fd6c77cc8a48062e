/** Promise 2. */
final class WriteTest {
    private static final Checks CHECKS = new Checks();

    public static void main(String[] args) {
        numbersClocksAndCopies();
        wrongMembers();
        fortyAndNoMore(new int[] {0});
        fortyAndNoMore(new int[] {2, 1, 0});
        refusalAtFortyOutlivesReading();
        copiesBeyondTwentyArriveInOrder();
        CHECKS.finish();
    }

    private static void numbersClocksAndCopies() {
        OrderedRoom room = new OrderedRoom();
        CHECKS.due("write(1)", room.write(1), 0);
        CHECKS.due("write(1)", room.write(1), 1);
        CHECKS.due("write(0)", room.write(0), 2);
        CHECKS.due("state", Checks.stateOf(room), "[clock 1 held 1 read waiting -1 1 1]"
                + "[clock 2 held 2 read waiting 2 -1 2]"
                + "[clock 0 held 0 read waiting 0 0 -1]");
    }

    private static void wrongMembers() {
        OrderedRoom room = Checks.roomOfThree();
        String before = Checks.stateOf(room);
        for (int member : Checks.NO_MEMBERS) {
            CHECKS.due("write(" + member + ")", room.write(member), -1);
        }
        CHECKS.due("state after refusals", Checks.stateOf(room), before);
        CHECKS.due("number after refusals", room.write(0), 3);
    }

    private static void fortyAndNoMore(int[] writers) {
        OrderedRoom room = new OrderedRoom();
        for (int i = 0; i < 40; i++) {
            CHECKS.due("write " + i, room.write(writers[i % writers.length]), i);
        }
        String before = Checks.stateOf(room);
        for (int member = 0; member < 3; member++) {
            CHECKS.due("41st write by " + member, room.write(member), -1);
        }
        CHECKS.due("state after the 41st", Checks.stateOf(room), before);
    }

    private static void refusalAtFortyOutlivesReading() {
        OrderedRoom room = new OrderedRoom();
        for (int i = 0; i < 40; i++) {
            CHECKS.due("write " + i, room.write(0), i);
            room.take(0, 1);
            room.take(0, 2);
        }
        CHECKS.due("41st write, all taken", room.write(0), -1);
        CHECKS.due("clock", room.clock(0), 40);
    }

    /** Twenty ticks and then forty messages are the most that one way can hold. */
    private static void copiesBeyondTwentyArriveInOrder() {
        OrderedRoom room = new OrderedRoom();
        for (int i = 0; i < 20; i++) {
            room.tick(2);
            room.take(2, 1);
            room.take(2, 0);
        }
        for (int i = 0; i < 20; i++) {
            CHECKS.due("tick", room.tick(2), 21 + i);
        }
        for (int i = 0; i < 40; i++) {
            CHECKS.due("write " + i, room.write(2), i);
        }
        CHECKS.due("waiting(2, 0)", room.waiting(2, 0), 60);
        CHECKS.due("waiting(2, 1)", room.waiting(2, 1), 60);
        for (int i = 0; i < 60; i++) {
            CHECKS.due("take(2, 0)", room.take(2, 0), 0);
            CHECKS.due("held(0)", room.held(0), i < 20 ? 0 : i - 19);
        }
        CHECKS.due("take(2, 0) of nothing", room.take(2, 0), -1);
        CHECKS.due("waiting(2, 1)", room.waiting(2, 1), 60);
        CHECKS.due("take(2, 1)", room.take(2, 1), 0);
        CHECKS.due("clock(0)", room.clock(0), 81);
        room.tick(1);
        CHECKS.due("take(1, 0) of a tick before all", room.take(1, 0), 0);
    }
}
