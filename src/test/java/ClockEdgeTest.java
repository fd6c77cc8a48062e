/** Promise 6, and what "Terms" says of the taker's clock. */
final class ClockEdgeTest {
    private static final Checks CHECKS = new Checks();
    private static final String[] ROOMS = {"", Rooms.THREE, Rooms.BUSY, Rooms.FORTY_READ};

    public static void main(String[] args) {
        CHECKS.edge("-1 if member is less than 0", () -> wrongMembers(Checks.TOO_SMALL));
        CHECKS.edge("-1 if member is greater than 2", () -> wrongMembers(Checks.TOO_LARGE));
        CHECKS.edge("0 at the start, which is not -1", ClockEdgeTest::atTheStart);
        CHECKS.edge("a tick taken: the taker's clock was less by two or more, less by one, the same, greater",
                () -> taking("t"));
        CHECKS.edge("a message taken: the taker's clock was less by two or more, less by one, the same, greater",
                () -> taking("w"));
        CHECKS.edge("the clock of the thing, not the sender's present one", ClockEdgeTest::clockOfTheThing);
        CHECKS.edge("taking raises the taker's clock alone", ClockEdgeTest::takerAlone);
        CHECKS.edge("a take that reads raises the clock no further", ClockEdgeTest::readingRaisesNothing);
        CHECKS.edge("a refused write, tick or take raises no clock", ClockEdgeTest::refusedCalls);
        CHECKS.edge("asking changes nothing", ClockEdgeTest::asking);
        CHECKS.finish();
    }

    private static void wrongMembers(int[] members) {
        for (String before : ROOMS) {
            for (int member : members) {
                Twins.refused(CHECKS, before, "clock(" + member + ")", room -> room.clock(member));
            }
        }
    }

    private static void atTheStart() {
        for (int member = 0; member < 3; member++) {
            CHECKS.due("clock(" + member + ")", new OrderedRoom().clock(member), 0);
        }
    }

    /** The thing taken, the first of its sender, has clock 5 by what the sender took before. */
    private static void taking(String kind) {
        for (int i = 0; i < 9; i++) {
            int from = i / 3;
            int to = i % 3;
            if (from != to) {
                int third = 3 - from - to;
                for (int own = 0; own <= 8; own++) {
                    OrderedRoom room = Rooms.after("3*t" + third + " 3*" + third + ">" + from
                            + " " + kind + from + " " + own + "*t" + to);
                    CHECKS.due("clock(" + from + ")", room.clock(from), 5);
                    CHECKS.due("clock(" + to + ")", room.clock(to), own);
                    room.take(from, to);
                    CHECKS.due("clock " + own + " taking " + kind + " of 5", room.clock(to), own < 5 ? 6 : own + 1);
                }
            }
        }
    }

    private static void clockOfTheThing() {
        OrderedRoom room = Rooms.after("w0 9*t0 0>1");
        CHECKS.due("clock(1)", room.clock(1), 2);
        Rooms.play(room, "0>1");
        CHECKS.due("clock(1)", room.clock(1), 3);
    }

    private static void takerAlone() {
        OrderedRoom room = Rooms.after("4*t0 4*0>1");
        CHECKS.due("clock(0)", room.clock(0), 4);
        CHECKS.due("clock(1)", room.clock(1), 5);
        CHECKS.due("clock(2)", room.clock(2), 0);
    }

    private static void readingRaisesNothing() {
        OrderedRoom room = Rooms.after("40*w0 40*0>1 40*0>2 t2");
        CHECKS.due("clock(1)", room.clock(1), 41);
        CHECKS.due("take(2, 1)", room.take(2, 1), 40);
        CHECKS.due("clock(1) by a tick of 42", room.clock(1), 43);
    }

    private static void refusedCalls() {
        OrderedRoom room = Rooms.after("20*t0 40*w1");
        room.tick(0);
        room.write(0);
        room.write(1);
        room.write(2);
        room.take(2, 0);
        room.take(0, 0);
        CHECKS.due("clock(0)", room.clock(0), 20);
        CHECKS.due("clock(1)", room.clock(1), 40);
        CHECKS.due("clock(2)", room.clock(2), 0);
    }

    private static void asking() {
        Twins.changesNothing(CHECKS, Rooms.THREE, "clock(0)", 1, room -> room.clock(0));
        Twins.changesNothing(CHECKS, "20*t1", "clock(1)", 20, room -> room.clock(1));
        Twins.changesNothing(CHECKS, "20*t1", "clock(2)", 0, room -> room.clock(2));
    }
}
