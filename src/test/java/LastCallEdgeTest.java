/** "An object is used for at most 512 calls after it has been made": the 512th is still answered as promised. */
final class LastCallEdgeTest {
    private static final Checks CHECKS = new Checks();
    private static final int CALLS = 512;

    public static void main(String[] args) {
        CHECKS.edge("the 512th call, after 170 ticks and 340 takes", LastCallEdgeTest::ticksAndTakes);
        CHECKS.edge("the 512th call, after clocks went beyond 300", LastCallEdgeTest::highClocks);
        CHECKS.edge("the 512th call, after refused calls alone", LastCallEdgeTest::refusedCalls);
        CHECKS.edge("the 512th call reads 40 messages", LastCallEdgeTest::fortyAtTheEnd);
        CHECKS.finish();
    }

    /** 170 rounds of three calls, and two calls more. */
    private static void ticksAndTakes() {
        OrderedRoom room = new OrderedRoom();
        for (int round = 1; round <= 170; round++) {
            CHECKS.due("tick(0)", room.tick(0), round);
            CHECKS.due("take(0, 1)", room.take(0, 1), 0);
            CHECKS.due("take(0, 2)", room.take(0, 2), 0);
        }
        CHECKS.due("clock(1)", room.clock(1), 171);
        CHECKS.due("tick(1)", room.tick(1), 172);
    }

    /** Each thing sets out one clock beyond the last, so that the last messages have stamps beyond 300. */
    private static void highClocks() {
        OrderedRoom room = new OrderedRoom();
        for (int round = 0; round < 80; round++) {
            CHECKS.due("tick(0)", room.tick(0), 4 * round + 1);
            Rooms.play(room, "0>1 0>2");
            CHECKS.due("tick(1)", room.tick(1), 4 * round + 3);
            Rooms.play(room, "1>0 1>2");
        }
        CHECKS.due("write(1)", room.write(1), 0);
        CHECKS.due("write(0)", room.write(0), 1);
        CHECKS.due("clock(0)", room.clock(0), 321);
        CHECKS.due("clock(1)", room.clock(1), 320);
        CHECKS.due("take of (321, 0), 1 not heard so far", room.take(0, 2), 0);
        CHECKS.due("take of (320, 1)", room.take(1, 2), 1);
        CHECKS.due("tick(1)", room.tick(1), 321);
        CHECKS.due("heard (321, 1)", room.take(1, 2), 1);
        for (int calls = 489; calls <= CALLS - 2; calls++) {
            CHECKS.due("count(2)", room.count(2), 2);
        }
        CHECKS.due("read(2, 0)", room.read(2, 0), 0);
        CHECKS.due("read(2, 1), the 512th call", room.read(2, 1), 1);
    }

    private static void refusedCalls() {
        OrderedRoom room = new OrderedRoom();
        for (int calls = 1; calls < CALLS; calls++) {
            int answer = switch (calls % 4) {
                case 0 -> room.write(3);
                case 1 -> room.tick(-1);
                case 2 -> room.take(0, 1);
                default -> room.read(0, 0);
            };
            CHECKS.due("refused call", answer, -1);
        }
        CHECKS.due("write(2), the 512th call", room.write(2), 0);
    }

    private static void fortyAtTheEnd() {
        OrderedRoom room = Rooms.after("40*w0 40*0>1 40*0>2 t2");
        for (int calls = 122; calls < CALLS; calls++) {
            CHECKS.due("held(1)", room.held(1), 40);
        }
        CHECKS.due("take(2, 1), the 512th call", room.take(2, 1), 40);
    }
}
