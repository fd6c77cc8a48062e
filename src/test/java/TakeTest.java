/** Promise 4. */
final class TakeTest {
    private static final Checks CHECKS = new Checks();

    public static void main(String[] args) {
        refusals();
        arrivesInTheOrderOfSettingOut();
        clocksOfTheTaker();
        othersMessageNeedsOnlyTheThird();
        ownMessageNeedsBothOthers();
        equalClocksGoByMember();
        earlierMessageHoldsBackLaterOnes();
        oneTakeReadsMany();
        CHECKS.finish();
    }

    private static void refusals() {
        OrderedRoom room = Checks.roomOfThree();
        room.take(0, 1);
        String before = Checks.stateOf(room);
        for (int member = 0; member < 3; member++) {
            CHECKS.due("take from and to " + member, room.take(member, member), -1);
            for (int wrong : Checks.NO_MEMBERS) {
                CHECKS.due("take(" + wrong + ", " + member + ")", room.take(wrong, member), -1);
                CHECKS.due("take(" + member + ", " + wrong + ")", room.take(member, wrong), -1);
            }
        }
        CHECKS.due("take(-1, -1)", room.take(-1, -1), -1);
        CHECKS.due("take(0, 1) of nothing", room.take(0, 1), -1);
        CHECKS.due("state after refusals", Checks.stateOf(room), before);
    }

    private static void arrivesInTheOrderOfSettingOut() {
        OrderedRoom room = new OrderedRoom();
        room.write(0);
        room.tick(0);
        room.write(0);
        room.take(0, 1);
        CHECKS.due("held(1) after a message", room.held(1), 1);
        room.take(0, 1);
        CHECKS.due("held(1) after a tick", room.held(1), 1);
        room.take(0, 1);
        CHECKS.due("held(1) after a message", room.held(1), 2);
        CHECKS.due("waiting(0, 2)", room.waiting(0, 2), 3);
    }

    private static void clocksOfTheTaker() {
        OrderedRoom room = new OrderedRoom();
        for (int i = 0; i < 5; i++) {
            room.tick(0);
        }
        room.write(1);
        room.take(1, 0);
        CHECKS.due("clock that was greater", room.clock(0), 6);
        for (int i = 0; i < 5; i++) {
            room.take(0, 1);
        }
        CHECKS.due("clock raised step by step", room.clock(1), 6);
        room.write(0);
        room.write(0);
        room.take(0, 1);
        CHECKS.due("clock raised to the stamp's", room.clock(1), 8);
        room.take(0, 1);
        CHECKS.due("clock equal to the stamp's", room.clock(1), 9);
        CHECKS.due("clock of the writer", room.clock(0), 8);
        CHECKS.due("clock of one who took nothing", room.clock(2), 0);
    }

    private static void othersMessageNeedsOnlyTheThird() {
        OrderedRoom room = new OrderedRoom();
        room.tick(2);
        room.take(2, 1);
        room.write(0);
        CHECKS.due("take of a message, the third heard", room.take(0, 1), 1);
        CHECKS.due("read(1, 0)", room.read(1, 0), 0);
    }

    private static void ownMessageNeedsBothOthers() {
        for (int last = 1; last < 3; last++) {
            OrderedRoom room = new OrderedRoom();
            room.write(0);
            room.tick(1);
            room.tick(2);
            CHECKS.due("one other heard", room.take(3 - last, 0), 0);
            CHECKS.due("both others heard, last " + last, room.take(last, 0), 1);
        }
    }

    /** (1, third) is heard; it is not earlier than (1, writer) just if third is greater than writer. */
    private static void equalClocksGoByMember() {
        for (int writer = 0; writer < 3; writer++) {
            for (int reader = 0; reader < 3; reader++) {
                if (writer != reader) {
                    int third = 3 - writer - reader;
                    OrderedRoom room = new OrderedRoom();
                    room.write(writer);
                    room.tick(third);
                    room.tick(third);
                    room.take(writer, reader);
                    String who = reader + " reads " + writer + "'s at equal clocks";
                    CHECKS.due(who, room.take(third, reader), third > writer ? 1 : 0);
                    CHECKS.due(who + ", then later", room.take(third, reader), third > writer ? 0 : 1);
                }
            }
        }
    }

    private static void earlierMessageHoldsBackLaterOnes() {
        OrderedRoom room = new OrderedRoom();
        room.write(2);
        room.tick(1);
        room.write(1);
        room.take(1, 2);
        CHECKS.due("message of 1, 0 unheard", room.take(1, 2), 0);
        room.tick(0);
        CHECKS.due("(1, 0) is earlier than (1, 2)", room.take(0, 2), 0);
        CHECKS.due("held(2)", room.held(2), 2);
        room.tick(0);
        CHECKS.due("(2, 0) lets (1, 2) be read and not (2, 1)", room.take(0, 2), 1);
        CHECKS.due("read(2, 0)", room.read(2, 0), 0);
        room.tick(0);
        CHECKS.due("(3, 0) lets (2, 1) be read", room.take(0, 2), 1);
        CHECKS.due("read(2, 1)", room.read(2, 1), 1);
    }

    private static void oneTakeReadsMany() {
        OrderedRoom room = new OrderedRoom();
        for (int i = 0; i < 39; i++) {
            room.write(0);
            room.take(0, 1);
        }
        room.take(0, 2);
        CHECKS.due("write(2)", room.write(2), 39);
        CHECKS.due("take of (3, 2)", room.take(2, 1), 4);
        for (int i = 1; i < 39; i++) {
            room.take(0, 2);
        }
        room.tick(2);
        CHECKS.due("take of a tick past all", room.take(2, 1), 36);
        CHECKS.due("count(1)", room.count(1), 40);
        CHECKS.due("read(1, 2)", room.read(1, 2), 2);
        CHECKS.due("read(1, 3), the late one by number", room.read(1, 3), 39);
        CHECKS.due("read(1, 4)", room.read(1, 4), 3);
        CHECKS.due("read(1, 39)", room.read(1, 39), 38);
    }
}
