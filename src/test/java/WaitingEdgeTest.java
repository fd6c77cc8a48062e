/** Promise 5. */
final class WaitingEdgeTest {
    private static final Checks CHECKS = new Checks();
    private static final String[] ROOMS = {"", Rooms.THREE, Rooms.BUSY, Rooms.FULL_WAY};

    public static void main(String[] args) {
        CHECKS.edge("-1 if from is less than 0", () -> wrongFrom(Checks.TOO_SMALL));
        CHECKS.edge("-1 if from is greater than 2", () -> wrongFrom(Checks.TOO_LARGE));
        CHECKS.edge("-1 if to is less than 0", () -> wrongTo(Checks.TOO_SMALL));
        CHECKS.edge("-1 if to is greater than 2", () -> wrongTo(Checks.TOO_LARGE));
        CHECKS.edge("-1 if neither is from 0 to 2", WaitingEdgeTest::bothWrong);
        CHECKS.edge("-1 if they are the same", WaitingEdgeTest::same);
        CHECKS.edge("0, not -1, if nothing has set out", WaitingEdgeTest::nothingSetOut);
        CHECKS.edge("0, not -1, if all has been taken", WaitingEdgeTest::allTaken);
        CHECKS.edge("copies and ticks both", WaitingEdgeTest::bothKinds);
        CHECKS.edge("20 ticks and 40 messages, the most that can be on one way", WaitingEdgeTest::sixty);
        CHECKS.edge("each way by itself", WaitingEdgeTest::eachWay);
        CHECKS.edge("a refused write, tick or take puts nothing on the way and takes nothing off",
                WaitingEdgeTest::refusedCalls);
        CHECKS.finish();
    }

    private static void refusedWaiting(String before, int from, int to) {
        Twins.refused(CHECKS, before, "waiting(" + from + ", " + to + ")", room -> room.waiting(from, to));
    }

    private static void wrongFrom(int[] wrongs) {
        for (String before : ROOMS) {
            for (int wrong : wrongs) {
                for (int to = 0; to < 3; to++) {
                    refusedWaiting(before, wrong, to);
                }
            }
        }
    }

    private static void wrongTo(int[] wrongs) {
        for (String before : ROOMS) {
            for (int wrong : wrongs) {
                for (int from = 0; from < 3; from++) {
                    refusedWaiting(before, from, wrong);
                }
            }
        }
    }

    private static void bothWrong() {
        for (int from : Checks.NO_MEMBERS) {
            for (int to : Checks.NO_MEMBERS) {
                refusedWaiting(Rooms.THREE, from, to);
            }
        }
    }

    private static void same() {
        for (String before : ROOMS) {
            for (int member = 0; member < 3; member++) {
                refusedWaiting(before, member, member);
            }
        }
    }

    private static void nothingSetOut() {
        for (int i = 0; i < 9; i++) {
            int from = i / 3;
            int to = i % 3;
            if (from != to) {
                Twins.changesNothing(CHECKS, "", "waiting(" + from + ", " + to + ")", 0, room -> room.waiting(from, to));
            }
        }
    }

    private static void allTaken() {
        for (int i = 0; i < 9; i++) {
            int from = i / 3;
            int to = i % 3;
            if (from != to) {
                OrderedRoom room = Rooms.after(Rooms.THREE + " " + from + ">" + to);
                CHECKS.due("waiting(" + from + ", " + to + ")", room.waiting(from, to), 0);
                CHECKS.due("take(" + from + ", " + to + ")", room.take(from, to), -1);
                CHECKS.due("waiting(" + from + ", " + to + ") after a refused take", room.waiting(from, to), 0);
            }
        }
    }

    private static void bothKinds() {
        CHECKS.due("a copy", Rooms.after("w0").waiting(0, 1), 1);
        CHECKS.due("a tick", Rooms.after("t0").waiting(0, 1), 1);
        CHECKS.due("one of each", Rooms.after("w0 t0").waiting(0, 1), 2);
        CHECKS.due("a tick when the copy is taken", Rooms.after("w0 t0 0>1").waiting(0, 1), 1);
    }

    private static void sixty() {
        Twins.changesNothing(CHECKS, Rooms.FULL_WAY, "waiting(2, 0)", 60, room -> room.waiting(2, 0));
        Twins.changesNothing(CHECKS, Rooms.FULL_WAY, "waiting(2, 1)", 60, room -> room.waiting(2, 1));
        CHECKS.due("waiting(2, 0) after 59 takes", Rooms.after(Rooms.FULL_WAY + " 59*2>0").waiting(2, 0), 1);
        CHECKS.due("waiting(2, 0) after 60 takes", Rooms.after(Rooms.FULL_WAY + " 60*2>0").waiting(2, 0), 0);
    }

    private static void eachWay() {
        OrderedRoom room = Rooms.after("7*t0 9*t1 11*t2 6*0>1 5*0>2 6*1>0 5*1>2 6*2>0 5*2>1");
        int[] want = {-1, 1, 2, 3, -1, 4, 5, 6, -1};
        for (int i = 0; i < 9; i++) {
            CHECKS.due("waiting(" + i / 3 + ", " + i % 3 + ")", room.waiting(i / 3, i % 3), want[i]);
        }
    }

    private static void refusedCalls() {
        OrderedRoom room = Rooms.after("20*t0 20*0>1");
        CHECKS.due("tick(0)", room.tick(0), -1);
        CHECKS.due("take(0, 1)", room.take(0, 1), -1);
        CHECKS.due("waiting(0, 1)", room.waiting(0, 1), 0);
        CHECKS.due("waiting(0, 2)", room.waiting(0, 2), 20);
        room = Rooms.after(Rooms.FORTY_OF_ONE);
        CHECKS.due("write(1)", room.write(1), -1);
        CHECKS.due("waiting(1, 0)", room.waiting(1, 0), 0);
        CHECKS.due("waiting(1, 2)", room.waiting(1, 2), 0);
    }
}
