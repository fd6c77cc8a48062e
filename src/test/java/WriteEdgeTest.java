/** Promise 2, and what "Terms" says of writing. */
final class WriteEdgeTest {
    private static final Checks CHECKS = new Checks();
    private static final String[] ROOMS = {
        "", Rooms.THREE, Rooms.BUSY, Rooms.FULL_WAY, Rooms.FORTY_OF_ALL, Rooms.FORTY_READ};

    public static void main(String[] args) {
        CHECKS.edge("-1, and changes nothing, if member is less than 0", () -> wrongMembers(Checks.TOO_SMALL));
        CHECKS.edge("-1, and changes nothing, if member is greater than 2", () -> wrongMembers(Checks.TOO_LARGE));
        CHECKS.edge("the 40th message is written, and its number is 39", WriteEdgeTest::fortieth);
        CHECKS.edge("-1, and changes nothing, if 40 have been written", WriteEdgeTest::fortyFirst);
        CHECKS.edge("40 in all, not 40 of each member", WriteEdgeTest::fortyInAll);
        CHECKS.edge("40 have been written even when all of them are taken and read", WriteEdgeTest::fortyRead);
        CHECKS.edge("a refused write is not one of the 40 and takes no number", WriteEdgeTest::refusedIsNotCounted);
        CHECKS.edge("a tick is no message: it takes no number and is not one of the 40", WriteEdgeTest::ticksAreNotCounted);
        CHECKS.edge("a message is written however many things are on the way", WriteEdgeTest::noLimitOnTheWay);
        CHECKS.edge("raises the member's clock by 1, and no other's", WriteEdgeTest::clockByOne);
        CHECKS.edge("to each of the two others a copy sets out, and none to the member", WriteEdgeTest::twoCopies);
        CHECKS.edge("the member has the message at once, and the others not yet", WriteEdgeTest::hadAtOnce);
        CHECKS.edge("the stamp has the clock then, not that before", WriteEdgeTest::stampIsRaised);
        CHECKS.finish();
    }

    private static void wrongMembers(int[] members) {
        for (String before : ROOMS) {
            for (int member : members) {
                Twins.refused(CHECKS, before, "write(" + member + ")", room -> room.write(member));
            }
        }
    }

    private static void fortieth() {
        for (int last = 0; last < 3; last++) {
            CHECKS.due("40th of one member", Rooms.after("39*w" + last).write(last), 39);
            CHECKS.due("40th by " + last, Rooms.after("13*w2 13*w1 13*w0").write(last), 39);
        }
    }

    private static void fortyFirst() {
        for (int member = 0; member < 3; member++) {
            int writer = member;
            Twins.refused(CHECKS, "40*w" + writer, "write(" + writer + ")", room -> room.write(writer));
            Twins.refused(CHECKS, Rooms.FULL_WAY, "write(" + writer + ")", room -> room.write(writer));
        }
    }

    private static void fortyInAll() {
        for (int member = 0; member < 3; member++) {
            int writer = member;
            Twins.refused(CHECKS, Rooms.FORTY_OF_ONE, "write(" + writer + ")", room -> room.write(writer));
            Twins.refused(CHECKS, Rooms.FORTY_OF_ALL, "write(" + writer + ")", room -> room.write(writer));
        }
    }

    private static void fortyRead() {
        for (int member = 0; member < 3; member++) {
            int writer = member;
            Twins.refused(CHECKS, Rooms.FORTY_READ, "write(" + writer + ")", room -> room.write(writer));
        }
    }

    private static void refusedIsNotCounted() {
        OrderedRoom room = new OrderedRoom();
        for (int number = 0; number < 40; number++) {
            room.write(-1);
            room.write(3);
            CHECKS.due("write after refusals", room.write(number % 3), number);
        }
        CHECKS.due("41st", room.write(0), -1);
        CHECKS.due("clock(0)", room.clock(0), 14);
    }

    private static void ticksAreNotCounted() {
        OrderedRoom room = Rooms.after("20*t0 20*t1 20*t2");
        for (int number = 0; number < 40; number++) {
            CHECKS.due("write after 60 ticks", room.write(number % 3), number);
        }
        CHECKS.due("41st", room.write(1), -1);
    }

    private static void noLimitOnTheWay() {
        OrderedRoom room = Rooms.after("20*t2");
        for (int number = 0; number < 40; number++) {
            CHECKS.due("write with " + (20 + number) + " on the way", room.write(2), number);
            CHECKS.due("waiting(2, 0)", room.waiting(2, 0), 21 + number);
            CHECKS.due("waiting(2, 1)", room.waiting(2, 1), 21 + number);
        }
    }

    private static void clockByOne() {
        for (int member = 0; member < 3; member++) {
            OrderedRoom room = Rooms.after("5*t0 7*t1 3*t2");
            int[] want = {5, 7, 3};
            want[member]++;
            room.write(member);
            for (int any = 0; any < 3; any++) {
                CHECKS.due("clock(" + any + ") by write(" + member + ")", room.clock(any), want[any]);
            }
        }
    }

    private static void twoCopies() {
        for (int member = 0; member < 3; member++) {
            OrderedRoom room = Rooms.after("w" + member);
            for (int i = 0; i < 9; i++) {
                int from = i / 3;
                int to = i % 3;
                int want = from == to ? -1 : from == member ? 1 : 0;
                CHECKS.due("waiting(" + from + ", " + to + ") by write(" + member + ")", room.waiting(from, to), want);
            }
        }
    }

    private static void hadAtOnce() {
        for (int member = 0; member < 3; member++) {
            OrderedRoom room = Rooms.after("w" + member);
            for (int any = 0; any < 3; any++) {
                CHECKS.due("held(" + any + ") by write(" + member + ")", room.held(any), any == member ? 1 : 0);
            }
        }
    }

    /** Stamp (1, 0): ticks of clock 1 of the greater members are just enough; those of the lesser ones just too little. */
    private static void stampIsRaised() {
        CHECKS.due("own (1, 0), heard (1, 1) and (1, 2)", Rooms.play(Rooms.after("w0"), "t1 t2 1>0 2>0"), 1);
        CHECKS.due("own (1, 2), heard (1, 0) and (1, 1)", Rooms.play(Rooms.after("w2"), "t0 t1 0>2 1>2"), 0);
        CHECKS.due("own (1, 2), heard (2, 0) and (2, 1)", Rooms.play(Rooms.after("w2"), "2*t0 2*t1 2*0>2 2*1>2"), 1);
    }
}
