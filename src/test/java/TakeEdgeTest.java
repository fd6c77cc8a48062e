/** Promise 4: what is refused, and the order of arrival. How much is read by a take stands in ReadingEdgeTest. */
final class TakeEdgeTest {
    private static final Checks CHECKS = new Checks();
    /** In most of them all six ways are busy, so that a wrong member can't hide behind an empty way. */
    private static final String[] ROOMS = {"", Rooms.THREE, Rooms.BUSY, Rooms.FORTY_OF_ALL, Rooms.FORTY_READ};

    public static void main(String[] args) {
        CHECKS.edge("-1, and changes nothing, if from is less than 0", () -> wrongFrom(Checks.TOO_SMALL));
        CHECKS.edge("-1, and changes nothing, if from is greater than 2", () -> wrongFrom(Checks.TOO_LARGE));
        CHECKS.edge("-1, and changes nothing, if to is less than 0", () -> wrongTo(Checks.TOO_SMALL));
        CHECKS.edge("-1, and changes nothing, if to is greater than 2", () -> wrongTo(Checks.TOO_LARGE));
        CHECKS.edge("-1, and changes nothing, if neither is from 0 to 2", TakeEdgeTest::bothWrong);
        CHECKS.edge("-1, and changes nothing, if they are the same", TakeEdgeTest::same);
        CHECKS.edge("-1, and changes nothing, if nothing has set out", TakeEdgeTest::nothingSetOut);
        CHECKS.edge("-1, and changes nothing, if all has been taken", TakeEdgeTest::allTaken);
        CHECKS.edge("what is on the way to the other one is not on this way", TakeEdgeTest::otherWay);
        CHECKS.edge("what is on the way back is not on this way", TakeEdgeTest::wayBack);
        CHECKS.edge("a refused take hears nothing, though the other one's clock has gone on", TakeEdgeTest::hearsNothing);
        CHECKS.edge("one thing at a time", TakeEdgeTest::oneAtATime);
        CHECKS.edge("arrives in the order in which it set out", TakeEdgeTest::inOrder);
        CHECKS.edge("the same order on a way that is as full as it goes", TakeEdgeTest::fullWay);
        CHECKS.edge("the same order after more things than a way holds at once", TakeEdgeTest::longWay);
        CHECKS.edge("a message taken is had then, by the taker alone", TakeEdgeTest::hadByTheTaker);
        CHECKS.finish();
    }

    private static void refusedTake(String before, int from, int to) {
        Twins.refused(CHECKS, before, "take(" + from + ", " + to + ")", room -> room.take(from, to));
    }

    private static void wrongFrom(int[] wrongs) {
        for (String before : ROOMS) {
            for (int wrong : wrongs) {
                for (int to = 0; to < 3; to++) {
                    refusedTake(before, wrong, to);
                }
            }
        }
    }

    private static void wrongTo(int[] wrongs) {
        for (String before : ROOMS) {
            for (int wrong : wrongs) {
                for (int from = 0; from < 3; from++) {
                    refusedTake(before, from, wrong);
                }
            }
        }
    }

    private static void bothWrong() {
        for (int from : Checks.NO_MEMBERS) {
            for (int to : Checks.NO_MEMBERS) {
                refusedTake(Rooms.THREE, from, to);
            }
        }
    }

    private static void same() {
        for (String before : ROOMS) {
            for (int member = 0; member < 3; member++) {
                refusedTake(before, member, member);
            }
        }
    }

    private static void nothingSetOut() {
        for (int i = 0; i < 9; i++) {
            if (i / 3 != i % 3) {
                refusedTake("", i / 3, i % 3);
            }
        }
    }

    private static void allTaken() {
        for (int i = 0; i < 9; i++) {
            int from = i / 3;
            int to = i % 3;
            if (from != to) {
                String way = from + ">" + to;
                refusedTake(Rooms.THREE + " " + way, from, to);
                refusedTake(Rooms.THREE + " t" + from + " 2*" + way, from, to);
            }
        }
        refusedTake(Rooms.FULL_WAY + " 60*2>0", 2, 0);
    }

    private static void otherWay() {
        for (int from = 0; from < 3; from++) {
            int one = (from + 1) % 3;
            int other = (from + 2) % 3;
            refusedTake("w" + from + " t" + from + " 2*" + from + ">" + one, from, one);
            refusedTake("w" + from + " t" + from + " 2*" + from + ">" + other, from, other);
        }
    }

    private static void wayBack() {
        for (int from = 0; from < 3; from++) {
            refusedTake("w" + from + " t" + from, (from + 1) % 3, from);
            refusedTake("w" + from + " t" + from, (from + 2) % 3, from);
        }
    }

    /** Member 2's clock is 2 by what it took; member 1 has (1, 0), and would read it if it had heard that. */
    private static void hearsNothing() {
        String before = "w0 0>1 0>2";
        refusedTake(before, 2, 1);
        OrderedRoom room = Rooms.after(before);
        CHECKS.due("take(2, 1)", room.take(2, 1), -1);
        CHECKS.due("take(0, 1) of a tick", Rooms.play(room, "t0 0>1"), 0);
        CHECKS.due("held(1)", room.held(1), 1);
    }

    private static void oneAtATime() {
        OrderedRoom room = Rooms.after("3*w0 t0");
        for (int left = 3; left >= 0; left--) {
            room.take(0, 2);
            CHECKS.due("waiting(0, 2)", room.waiting(0, 2), left);
            CHECKS.due("waiting(0, 1)", room.waiting(0, 1), 4);
            CHECKS.due("held(2)", room.held(2), left > 0 ? 4 - left : 3);
        }
    }

    private static void inOrder() {
        OrderedRoom room = Rooms.after("w1 t1 t1 w1 t1");
        int[] held = {1, 1, 1, 2, 2};
        for (int i = 0; i < 5; i++) {
            room.take(1, 0);
            CHECKS.due("held(0) after thing " + i, room.held(0), held[i]);
            CHECKS.due("clock(0) after thing " + i, room.clock(0), i + 2);
        }
    }

    /** Member 0 has heard enough from 1 to read each message as it comes. */
    private static void fullWay() {
        OrderedRoom room = Rooms.after(Rooms.FULL_WAY + " 60*2>1 t1 1>0");
        for (int i = 0; i < 20; i++) {
            CHECKS.due("tick " + i, room.take(2, 0), 0);
        }
        for (int number = 0; number < 40; number++) {
            CHECKS.due("message " + number, room.take(2, 0), 1);
            CHECKS.due("read(0, " + number + ")", room.read(0, number), number);
        }
        CHECKS.due("take(2, 0) of nothing", room.take(2, 0), -1);
    }

    /** Never fewer than nine on the way from 0 to 1, so that what comes too early or too late is seen. */
    private static void longWay() {
        OrderedRoom room = Rooms.after("9*t0 9*0>2");
        int held = 0;
        for (int round = 0; round < 120; round++) {
            boolean message = round % 3 == 0;
            Rooms.play(room, message ? "w0 0>1 0>2" : "t0 0>1 0>2");
            // The thing taken set out nine rounds ago.
            held += round >= 9 && message ? 1 : 0;
            if (round % 30 == 29) {
                CHECKS.due("held(1) after round " + round, room.held(1), held);
                CHECKS.due("clock(1) after round " + round, room.clock(1), round + 2);
            }
        }
        CHECKS.due("waiting(0, 1)", room.waiting(0, 1), 9);
        for (int i = 0; i < 9; i++) {
            held += i % 3 == 0 ? 1 : 0;
            room.take(0, 1);
            CHECKS.due("held(1) at the end", room.held(1), held);
            CHECKS.due("clock(1) at the end", room.clock(1), 122 + i);
        }
        CHECKS.due("take(0, 1) of nothing", room.take(0, 1), -1);
    }

    private static void hadByTheTaker() {
        OrderedRoom room = Rooms.after("w0 0>1");
        CHECKS.due("held(0)", room.held(0), 1);
        CHECKS.due("held(1)", room.held(1), 1);
        CHECKS.due("held(2)", room.held(2), 0);
    }
}
