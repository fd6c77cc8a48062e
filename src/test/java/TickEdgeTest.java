/** Promise 3, and what "Terms" says of ticks. */
final class TickEdgeTest {
    private static final Checks CHECKS = new Checks();
    private static final String[] ROOMS = {"", Rooms.THREE, Rooms.BUSY, Rooms.FULL_WAY, Rooms.FORTY_READ};

    public static void main(String[] args) {
        CHECKS.edge("-1, and changes nothing, if member is less than 0", () -> wrongMembers(Checks.TOO_SMALL));
        CHECKS.edge("-1, and changes nothing, if member is greater than 2", () -> wrongMembers(Checks.TOO_LARGE));
        CHECKS.edge("19 things not taken: the tick is sent", TickEdgeTest::nineteen);
        CHECKS.edge("20 things not taken: -1, and changes nothing", TickEdgeTest::twenty);
        CHECKS.edge("20 to one of the others are enough, though the other way is empty", TickEdgeTest::twentyToOne);
        CHECKS.edge("20 or more: also at 21 and at 60", TickEdgeTest::more);
        CHECKS.edge("copies are things too", TickEdgeTest::copies);
        CHECKS.edge("the two ways are not added up", TickEdgeTest::notTheSum);
        CHECKS.edge("what has been taken does not count", TickEdgeTest::takenDoesNotCount);
        CHECKS.edge("what sets out from the others does not count", TickEdgeTest::othersDoNotCount);
        CHECKS.edge("ticks go on after the 40th message", TickEdgeTest::afterForty);
        CHECKS.edge("raises the member's clock by 1, and no other's; answers the clock then", TickEdgeTest::clockByOne);
        CHECKS.edge("goes to each of the two others, and not to the member", TickEdgeTest::bothWays);
        CHECKS.edge("is no message: nothing is had or read by it", TickEdgeTest::noMessage);
        CHECKS.edge("carries the clock then, not that before nor a later one", TickEdgeTest::carriesTheClockThen);
        CHECKS.finish();
    }

    private static void refusedTick(String before, int member) {
        Twins.refused(CHECKS, before, "tick(" + member + ")", room -> room.tick(member));
    }

    private static void wrongMembers(int[] members) {
        for (String before : ROOMS) {
            for (int member : members) {
                refusedTick(before, member);
            }
        }
    }

    private static void nineteen() {
        for (int member = 0; member < 3; member++) {
            CHECKS.due("20th tick of " + member, Rooms.after("19*t" + member).tick(member), 20);
        }
    }

    private static void twenty() {
        for (int member = 0; member < 3; member++) {
            refusedTick("20*t" + member, member);
        }
    }

    private static void twentyToOne() {
        for (int i = 0; i < 9; i++) {
            int member = i / 3;
            int quick = i % 3;
            if (quick != member) {
                String before = "20*t" + member + " 20*" + member + ">" + quick;
                CHECKS.due("waiting on the quick way", Rooms.after(before).waiting(member, quick), 0);
                refusedTick(before, member);
            }
        }
    }

    private static void more() {
        for (int member = 0; member < 3; member++) {
            refusedTick("20*t" + member + " w" + member, member);
            refusedTick("20*t" + member + " 40*w" + member, member);
        }
    }

    private static void copies() {
        for (int member = 0; member < 3; member++) {
            CHECKS.due("tick after 19 copies", Rooms.after("19*w" + member).tick(member), 20);
            refusedTick("20*w" + member, member);
            refusedTick("19*w" + member + " t" + member, member);
            refusedTick("40*w" + member, member);
        }
    }

    private static void notTheSum() {
        CHECKS.due("tick with 10 and 10", Rooms.after("10*t0").tick(0), 11);
        CHECKS.due("tick with 19 and 19", Rooms.after("19*t1").tick(1), 20);
        CHECKS.due("tick with 19 and 1", Rooms.after("19*t2 18*2>0").tick(2), 20);
    }

    private static void takenDoesNotCount() {
        for (int member = 0; member < 3; member++) {
            int one = (member + 1) % 3;
            int other = (member + 2) % 3;
            String takes = " " + member + ">" + one + " " + member + ">" + other;
            OrderedRoom room = Rooms.after("20*t" + member + takes);
            CHECKS.due("tick after one of 20 was taken by both", room.tick(member), 21);
            CHECKS.due("tick at 20 again", room.tick(member), -1);
            refusedTick("20*t" + member + " " + member + ">" + one, member);
            refusedTick("20*t" + member + " w" + member + takes, member);
        }
    }

    private static void othersDoNotCount() {
        CHECKS.due("tick(0)", Rooms.after("20*t1 20*t2").tick(0), 1);
        CHECKS.due("tick(1)", Rooms.after("20*t0 20*t2").tick(1), 1);
        CHECKS.due("tick(2)", Rooms.after("20*w0 20*w1").tick(2), 1);
    }

    private static void afterForty() {
        CHECKS.due("tick(1)", Rooms.after(Rooms.FORTY_OF_ONE).tick(1), 1);
        CHECKS.due("tick(0)", Rooms.after(Rooms.FORTY_READ).tick(0), 45);
    }

    private static void clockByOne() {
        for (int member = 0; member < 3; member++) {
            OrderedRoom room = Rooms.after("5*w0 7*w1 3*w2");
            int[] want = {5, 7, 3};
            want[member]++;
            CHECKS.due("tick(" + member + ")", room.tick(member), want[member]);
            for (int any = 0; any < 3; any++) {
                CHECKS.due("clock(" + any + ") by tick(" + member + ")", room.clock(any), want[any]);
            }
        }
    }

    private static void bothWays() {
        for (int member = 0; member < 3; member++) {
            OrderedRoom room = Rooms.after("t" + member);
            for (int i = 0; i < 9; i++) {
                int from = i / 3;
                int to = i % 3;
                int want = from == to ? -1 : from == member ? 1 : 0;
                CHECKS.due("waiting(" + from + ", " + to + ") by tick(" + member + ")", room.waiting(from, to), want);
            }
        }
    }

    private static void noMessage() {
        OrderedRoom room = Rooms.after("t0 t1 t2");
        for (int i = 0; i < 9; i++) {
            if (i / 3 != i % 3) {
                CHECKS.due("take of a tick", room.take(i / 3, i % 3), 0);
            }
        }
        for (int member = 0; member < 3; member++) {
            CHECKS.due("held(" + member + ")", room.held(member), 0);
            CHECKS.due("count(" + member + ")", room.count(member), 0);
        }
        CHECKS.due("number of the first message", room.write(0), 0);
    }

    private static void carriesTheClockThen() {
        OrderedRoom room = Rooms.after("t0 5*t0");
        room.take(0, 1);
        CHECKS.due("clock(1) by the first of six ticks", room.clock(1), 2);
        CHECKS.due("(1, 2) is just not earlier than (1, 1)", Rooms.play(Rooms.after("w1 1>0 t2 2*t2"), "2>0"), 1);
        CHECKS.due("(1, 0) is earlier than (1, 1)", Rooms.play(Rooms.after("w1 1>2 t0 2*t0"), "0>2"), 0);
    }
}
