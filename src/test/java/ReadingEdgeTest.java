/** "Terms", READING, as the answers of take (promise 4), count, read and held (7 to 9) show it. */
final class ReadingEdgeTest {
    private static final Checks CHECKS = new Checks();

    public static void main(String[] args) {
        CHECKS.edge("another's message: the third is heard a clock less, the same, a clock more",
                ReadingEdgeTest::othersMessage);
        CHECKS.edge("one's own message: an other is heard a clock less, the same, a clock more",
                ReadingEdgeTest::ownMessage);
        CHECKS.edge("one's own message: both others must have been heard so far", ReadingEdgeTest::bothOthers);
        CHECKS.edge("another's message: hearing it is enough as far as its writer goes", ReadingEdgeTest::writerIsHeard);
        CHECKS.edge("another's message: the reader's own clock does not matter", ReadingEdgeTest::readerDoesNotMatter);
        CHECKS.edge("heard by taking a message as by taking a tick", ReadingEdgeTest::heardByMessage);
        CHECKS.edge("heard by oneself, not by another one", ReadingEdgeTest::heardByAnother);
        CHECKS.edge("heard when it is taken, not when it sets out", ReadingEdgeTest::heardWhenTaken);
        CHECKS.edge("heard up to the clock of the thing, not to the taker's", ReadingEdgeTest::heardClockOfTheThing);
        CHECKS.edge("heard up to the clock of the last thing, not of the first", ReadingEdgeTest::heardLast);
        CHECKS.edge("as soon as it is had", ReadingEdgeTest::asSoonAsHad);
        CHECKS.edge("as soon as enough is heard", ReadingEdgeTest::asSoonAsHeard);
        CHECKS.edge("nothing is read: 0, which is not a refusal", ReadingEdgeTest::nothingIsRead);
        CHECKS.edge("all 40 are read by one take", ReadingEdgeTest::fortyByOne);
        CHECKS.edge("each once", ReadingEdgeTest::eachOnce);
        CHECKS.edge("in the order of stamps, of equal clocks by member", ReadingEdgeTest::equalClocks);
        CHECKS.edge("in the order of stamps, not of numbers nor of arrival", ReadingEdgeTest::stampsNotNumbers);
        CHECKS.edge("just those that are ready, and the later ones not", ReadingEdgeTest::justTheReady);
        CHECKS.edge("the writer too reads only when it has heard", ReadingEdgeTest::writeReadsNothing);
        CHECKS.edge("a tick reads nothing for the one who sends it", ReadingEdgeTest::tickReadsNothing);
        CHECKS.finish();
    }

    /** The message's stamp is (3, writer); the third is heard up to 1, 2, 3 and 4. */
    private static void othersMessage() {
        for (int i = 0; i < 9; i++) {
            int writer = i / 3;
            int reader = i % 3;
            if (writer != reader) {
                int third = 3 - writer - reader;
                OrderedRoom room = Rooms.after("2*t" + writer + " w" + writer + " 3*" + writer + ">" + reader);
                hearStepByStep(room, writer, third, reader);
            }
        }
    }

    /** The same with the writer as the reader; the one who is not looked at has been heard far enough before. */
    private static void ownMessage() {
        for (int i = 0; i < 9; i++) {
            int writer = i / 3;
            int slow = i % 3;
            if (writer != slow) {
                int quick = 3 - writer - slow;
                OrderedRoom room = Rooms.after("2*t" + writer + " w" + writer + " 4*t" + quick
                        + " 4*" + quick + ">" + writer);
                hearStepByStep(room, writer, slow, writer);
            }
        }
    }

    private static void hearStepByStep(OrderedRoom room, int writer, int third, int reader) {
        int enough = third > writer ? 3 : 4;
        String who = "(3, " + writer + ") at " + reader + ", heard ";
        for (int clock = 1; clock <= 5; clock++) {
            CHECKS.due("tick(" + third + ")", room.tick(third), clock);
            int read = room.take(third, reader);
            CHECKS.due(who + "(" + clock + ", " + third + ")", read, clock == enough ? 1 : 0);
            CHECKS.due("count(" + reader + ")", room.count(reader), clock < enough ? 0 : 1);
            CHECKS.due("held(" + reader + ")", room.held(reader), clock < enough ? 1 : 0);
        }
    }

    private static void bothOthers() {
        for (int writer = 0; writer < 3; writer++) {
            int one = (writer + 1) % 3;
            int other = (writer + 2) % 3;
            String takeOne = "9*" + one + ">" + writer;
            String takeOther = "9*" + other + ">" + writer;
            String before = "w" + writer + " 9*t" + one + " 9*t" + other;
            OrderedRoom room = Rooms.after(before + " " + takeOne);
            CHECKS.due("count(" + writer + "), one heard", room.count(writer), 0);
            Rooms.play(room, takeOther);
            CHECKS.due("count(" + writer + "), both heard", room.count(writer), 1);
            room = Rooms.after(before + " " + takeOther);
            CHECKS.due("count(" + writer + "), the other heard", room.count(writer), 0);
            Rooms.play(room, takeOne);
            CHECKS.due("count(" + writer + "), both heard", room.count(writer), 1);
        }
    }

    private static void writerIsHeard() {
        for (int i = 0; i < 9; i++) {
            int writer = i / 3;
            int reader = i % 3;
            if (writer != reader) {
                int third = 3 - writer - reader;
                OrderedRoom room = Rooms.after("2*t" + third + " 2*" + third + ">" + reader + " w" + writer);
                CHECKS.due(reader + " takes the first thing of " + writer, room.take(writer, reader), 1);
            }
        }
    }

    private static void readerDoesNotMatter() {
        OrderedRoom room = Rooms.after("9*t1 w1 9*t2 t2 t2 10*1>0");
        CHECKS.due("clock(0)", room.clock(0), 11);
        Rooms.play(room, "9*2>0");
        CHECKS.due("(10, 1), heard (9, 2), own clock beyond", room.count(0), 0);
        CHECKS.due("(10, 1), heard (10, 2)", room.take(2, 0), 1);
    }

    private static void heardByMessage() {
        OrderedRoom room = Rooms.after("w0 w2 0>1");
        CHECKS.due("heard (1, 2) by a message", room.take(2, 1), 1);
        CHECKS.due("read(1, 0)", room.read(1, 0), 0);
        CHECKS.due("held(1), the one by which it was heard", room.held(1), 1);
    }

    private static void heardByAnother() {
        OrderedRoom room = Rooms.after("w0 5*t2 5*2>0 0>1");
        CHECKS.due("count(1)", room.count(1), 0);
        CHECKS.due("held(1)", room.held(1), 1);
    }

    private static void heardWhenTaken() {
        OrderedRoom room = Rooms.after("w0 0>1 5*t2");
        CHECKS.due("count(1) with ticks on the way", room.count(1), 0);
        CHECKS.due("take(2, 1)", room.take(2, 1), 1);
    }

    /** Member 1 is far ahead by its own ticks when it takes (1, 0); that it has heard from 0 stays 1. */
    private static void heardClockOfTheThing() {
        OrderedRoom room = Rooms.after("t0 9*t1 0>1 2*t2 w2");
        CHECKS.due("clock(1)", room.clock(1), 10);
        Rooms.play(room, "2*2>1");
        CHECKS.due("(3, 2), heard (1, 0)", room.take(2, 1), 0);
    }

    private static void heardLast() {
        OrderedRoom room = Rooms.after("4*t2 3*t0 w0 4*0>1 2>1");
        CHECKS.due("(4, 0), heard (1, 2)", room.count(1), 0);
        CHECKS.due("(4, 0), heard (2, 2)", room.take(2, 1), 0);
        CHECKS.due("(4, 0), heard (3, 2)", room.take(2, 1), 0);
        CHECKS.due("(4, 0), heard (4, 2)", room.take(2, 1), 1);
    }

    private static void asSoonAsHad() {
        OrderedRoom room = Rooms.after("9*t2 9*2>1 3*w0");
        for (int number = 0; number < 3; number++) {
            CHECKS.due("take(0, 1)", room.take(0, 1), 1);
            CHECKS.due("read(1, " + number + ")", room.read(1, number), number);
            CHECKS.due("held(1)", room.held(1), 0);
        }
    }

    private static void asSoonAsHeard() {
        OrderedRoom room = Rooms.after("3*w0 3*0>1 4*t2");
        for (int number = 0; number < 3; number++) {
            CHECKS.due("take(2, 1)", room.take(2, 1), 1);
            CHECKS.due("read(1, " + number + ")", room.read(1, number), number);
            CHECKS.due("held(1)", room.held(1), 2 - number);
        }
        CHECKS.due("take(2, 1) with nothing left to read", room.take(2, 1), 0);
    }

    private static void nothingIsRead() {
        CHECKS.due("a tick, nothing had", Rooms.after("t0").take(0, 1), 0);
        CHECKS.due("a message, the third not heard", Rooms.after("w0").take(0, 1), 0);
        CHECKS.due("a tick, too early for what is had", Rooms.after("w1 t0 1>2").take(0, 2), 0);
    }

    private static void fortyByOne() {
        OrderedRoom room = Rooms.after("40*w0 40*0>1 40*0>2 t2");
        CHECKS.due("held(1)", room.held(1), 40);
        CHECKS.due("take(2, 1)", room.take(2, 1), 40);
        CHECKS.due("held(1)", room.held(1), 0);
        CHECKS.due("count(1)", room.count(1), 40);
        for (int place = 0; place < 40; place++) {
            CHECKS.due("read(1, " + place + ")", room.read(1, place), place);
        }
        room = Rooms.after("40*w0 40*0>1 40*0>2 t1 t2 1>0");
        CHECKS.due("take(2, 0), all one's own", room.take(2, 0), 40);
    }

    private static void eachOnce() {
        OrderedRoom room = Rooms.after("w0 0>1 t2 2>1");
        CHECKS.due("count(1)", room.count(1), 1);
        CHECKS.due("a later tick", Rooms.play(room, "t2 2>1"), 0);
        CHECKS.due("a tick of its writer", Rooms.play(room, "t0 0>1"), 0);
        CHECKS.due("count(1)", room.count(1), 1);
        CHECKS.due("read(1, 1)", room.read(1, 1), -1);
    }

    /** Three messages with clock 1, written in every order, and taken in both orders. */
    private static void equalClocks() {
        int[][] orders = {{0, 1, 2}, {0, 2, 1}, {1, 0, 2}, {1, 2, 0}, {2, 0, 1}, {2, 1, 0}};
        for (int[] order : orders) {
            int[] numberOf = new int[3];
            StringBuilder writes = new StringBuilder();
            for (int number = 0; number < 3; number++) {
                numberOf[order[number]] = number;
                writes.append("w").append(order[number]).append(' ');
            }
            String due = " " + numberOf[0] + " " + numberOf[1] + " " + numberOf[2];
            for (int reader = 0; reader < 3; reader++) {
                int one = (reader + 1) % 3;
                int other = (reader + 2) % 3;
                String ticks = "t" + one + " t" + other + " ";
                String takesOne = "2*" + one + ">" + reader;
                String takesOther = "2*" + other + ">" + reader;
                OrderedRoom room = Rooms.after(writes + ticks + takesOne + " " + takesOther);
                CHECKS.due(writes + "read by " + reader, Rooms.readBy(room, reader), due);
                room = Rooms.after(writes + ticks + takesOther + " " + takesOne);
                CHECKS.due(writes + "read by " + reader + ", taken the other way", Rooms.readBy(room, reader), due);
            }
        }
    }

    /** Number 0 has stamp (6, 0), number 1 stamp (3, 1), number 2 stamp (1, 2): the order of stamps is 2, 1, 0. */
    private static void stampsNotNumbers() {
        String before = "5*t0 w0 2*t1 w1 w2 6*t1 6*t2 ";
        OrderedRoom room = Rooms.after(before + "6*0>2 9*1>2");
        CHECKS.due("read by 2", Rooms.readBy(room, 2), " 2 1 0");
        room = Rooms.after(before + "9*1>0 7*2>0");
        CHECKS.due("read by 0", Rooms.readBy(room, 0), " 2 1 0");
        room = Rooms.after(before + "7*2>0 9*1>0");
        CHECKS.due("read by 0, taken the other way", Rooms.readBy(room, 0), " 2 1 0");
        room = Rooms.after(before + "6*0>1 7*2>1");
        CHECKS.due("read by 1", Rooms.readBy(room, 1), " 2 1 0");
    }

    /** Messages (1, 0) to (6, 0) are had; hearing (c, 2) makes those up to (c, 0) ready. */
    private static void justTheReady() {
        OrderedRoom room = Rooms.after("6*w0 6*0>1 2*0>2 t2");
        CHECKS.due("heard (4, 2)", room.take(2, 1), 4);
        CHECKS.due("count(1)", room.count(1), 4);
        CHECKS.due("held(1)", room.held(1), 2);
        CHECKS.due("read(1, 3)", room.read(1, 3), 3);
        CHECKS.due("read(1, 4)", room.read(1, 4), -1);
        CHECKS.due("heard (5, 2)", Rooms.play(room, "t2 2>1"), 1);
        CHECKS.due("heard (6, 2)", Rooms.play(room, "t2 2>1"), 1);
    }

    private static void writeReadsNothing() {
        OrderedRoom room = Rooms.after("9*t1 9*t2 9*1>0 9*2>0 w0");
        CHECKS.due("count(0)", room.count(0), 0);
        CHECKS.due("held(0)", room.held(0), 1);
        CHECKS.due("clock(0)", room.clock(0), 20);
    }

    private static void tickReadsNothing() {
        OrderedRoom room = Rooms.after("w0 0>1 9*t1 9*t0");
        CHECKS.due("count(0)", room.count(0), 0);
        CHECKS.due("count(1)", room.count(1), 0);
        CHECKS.due("held(0)", room.held(0), 1);
        CHECKS.due("held(1)", room.held(1), 1);
    }
}
