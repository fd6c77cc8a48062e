/** Promise 4, ordinary use; the boundary cases stand in TakeEdgeTest and ReadingEdgeTest. */
final class TakeTest {
    private static final Checks CHECKS = new Checks();

    public static void main(String[] args) {
        clocksOfTheTaker();
        earlierMessageHoldsBackLaterOnes();
        oneTakeReadsMany();
        CHECKS.finish();
    }

    private static void clocksOfTheTaker() {
        OrderedRoom room = new OrderedRoom();
        for (int i = 0; i < 5; i++) {
            room.tick(0);
        }
        room.write(1);
        room.take(1, 0);
        CHECKS.due("clock that was greater", room.clock(0), 6);
        for (int i = 0; i < 5; i++) {
            room.take(0, 1);
        }
        CHECKS.due("clock raised step by step", room.clock(1), 6);
        room.write(0);
        room.write(0);
        room.take(0, 1);
        CHECKS.due("clock raised to the stamp's", room.clock(1), 8);
        room.take(0, 1);
        CHECKS.due("clock equal to the stamp's", room.clock(1), 9);
        CHECKS.due("clock of the writer", room.clock(0), 8);
        CHECKS.due("clock of one who took nothing", room.clock(2), 0);
    }

    private static void earlierMessageHoldsBackLaterOnes() {
        OrderedRoom room = new OrderedRoom();
        room.write(2);
        room.tick(1);
        room.write(1);
        room.take(1, 2);
        CHECKS.due("message of 1, 0 unheard", room.take(1, 2), 0);
        room.tick(0);
        CHECKS.due("(1, 0) is earlier than (1, 2)", room.take(0, 2), 0);
        CHECKS.due("held(2)", room.held(2), 2);
        room.tick(0);
        CHECKS.due("(2, 0) lets (1, 2) be read and not (2, 1)", room.take(0, 2), 1);
        CHECKS.due("read(2, 0)", room.read(2, 0), 0);
        room.tick(0);
        CHECKS.due("(3, 0) lets (2, 1) be read", room.take(0, 2), 1);
        CHECKS.due("read(2, 1)", room.read(2, 1), 1);
    }

    private static void oneTakeReadsMany() {
        OrderedRoom room = new OrderedRoom();
        for (int i = 0; i < 39; i++) {
            room.write(0);
            room.take(0, 1);
        }
        room.take(0, 2);
        CHECKS.due("write(2)", room.write(2), 39);
        CHECKS.due("take of (3, 2)", room.take(2, 1), 4);
        for (int i = 1; i < 39; i++) {
            room.take(0, 2);
        }
        room.tick(2);
        CHECKS.due("take of a tick past all", room.take(2, 1), 36);
        CHECKS.due("count(1)", room.count(1), 40);
        CHECKS.due("read(1, 2)", room.read(1, 2), 2);
        CHECKS.due("read(1, 3), the late one by number", room.read(1, 3), 39);
        CHECKS.due("read(1, 4)", room.read(1, 4), 3);
        CHECKS.due("read(1, 39)", room.read(1, 39), 38);
    }
}
