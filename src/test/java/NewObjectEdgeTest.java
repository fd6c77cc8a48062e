/** Promise 1, "No message; all clocks are 0": each answer that an empty room has. */
final class NewObjectEdgeTest {
    private static final Checks CHECKS = new Checks();

    public static void main(String[] args) {
        CHECKS.edge("all clocks are 0", NewObjectEdgeTest::clocks);
        CHECKS.edge("no message is had", NewObjectEdgeTest::nothingHeld);
        CHECKS.edge("no message is read", NewObjectEdgeTest::nothingRead);
        CHECKS.edge("nothing is on the way", NewObjectEdgeTest::nothingOnTheWay);
        CHECKS.edge("nothing can be taken, and trying changes nothing", NewObjectEdgeTest::nothingToTake);
        CHECKS.edge("members who have read nothing agree", NewObjectEdgeTest::allAgree);
        CHECKS.edge("messages are numbered from 0, whoever writes first", NewObjectEdgeTest::firstNumber);
        CHECKS.edge("the first tick carries 1, whoever sends it", NewObjectEdgeTest::firstTick);
        CHECKS.edge("heard up to 0 if there was none, which is too little for the first stamp",
                NewObjectEdgeTest::nothingHeard);
        CHECKS.edge("an object is new whatever another one went through", NewObjectEdgeTest::ownState);
        CHECKS.finish();
    }

    private static void clocks() {
        OrderedRoom room = new OrderedRoom();
        for (int member = 0; member < 3; member++) {
            CHECKS.due("clock(" + member + ")", room.clock(member), 0);
        }
    }

    private static void nothingHeld() {
        OrderedRoom room = new OrderedRoom();
        for (int member = 0; member < 3; member++) {
            CHECKS.due("held(" + member + ")", room.held(member), 0);
        }
    }

    private static void nothingRead() {
        OrderedRoom room = new OrderedRoom();
        for (int member = 0; member < 3; member++) {
            CHECKS.due("count(" + member + ")", room.count(member), 0);
            CHECKS.due("read(" + member + ", 0)", room.read(member, 0), -1);
        }
    }

    private static void nothingOnTheWay() {
        OrderedRoom room = new OrderedRoom();
        for (int from = 0; from < 3; from++) {
            for (int to = 0; to < 3; to++) {
                CHECKS.due("waiting(" + from + ", " + to + ")", room.waiting(from, to), from == to ? -1 : 0);
            }
        }
    }

    private static void nothingToTake() {
        for (int i = 0; i < 9; i++) {
            int from = i / 3;
            int to = i % 3;
            Twins.refused(CHECKS, "", "take(" + from + ", " + to + ")", room -> room.take(from, to));
        }
    }

    private static void allAgree() {
        OrderedRoom room = new OrderedRoom();
        for (int i = 0; i < 9; i++) {
            CHECKS.due("agree(" + i / 3 + ", " + i % 3 + ")", room.agree(i / 3, i % 3), 1);
        }
    }

    private static void firstNumber() {
        for (int member = 0; member < 3; member++) {
            CHECKS.due("write(" + member + ")", new OrderedRoom().write(member), 0);
        }
    }

    private static void firstTick() {
        for (int member = 0; member < 3; member++) {
            CHECKS.due("tick(" + member + ")", new OrderedRoom().tick(member), 1);
        }
    }

    private static void nothingHeard() {
        for (int i = 0; i < 9; i++) {
            int writer = i / 3;
            int reader = i % 3;
            OrderedRoom room = Rooms.after("w" + writer);
            if (reader != writer) {
                CHECKS.due("take(" + writer + ", " + reader + ")", room.take(writer, reader), 0);
            }
            CHECKS.due("count(" + reader + ")", room.count(reader), 0);
            CHECKS.due("held(" + reader + ")", room.held(reader), 1);
        }
    }

    private static void ownState() {
        String fresh = Rooms.stateOf(new OrderedRoom());
        OrderedRoom used = Rooms.after(Rooms.FORTY_READ);
        OrderedRoom room = new OrderedRoom();
        CHECKS.due("state of a later object", Rooms.stateOf(room), fresh);
        CHECKS.due("write(0) of a later object", room.write(0), 0);
        CHECKS.due("write(0) of the used one", used.write(0), -1);
        CHECKS.due("count(0) of the used one", used.count(0), 40);
    }
}
