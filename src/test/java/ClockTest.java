/** Promise 6, ordinary use; the boundary cases stand in ClockEdgeTest. */
final class ClockTest {
    public static void main(String[] args) {
        Checks checks = new Checks();
        OrderedRoom room = new OrderedRoom();
        room.write(0);
        room.tick(0);
        room.tick(0);
        room.tick(1);
        checks.due("clock(0)", room.clock(0), 3);
        checks.due("clock(1)", room.clock(1), 1);
        checks.due("clock(2)", room.clock(2), 0);
        room.take(0, 2);
        checks.due("clock(2) after (1, 0)", room.clock(2), 2);
        room.take(1, 2);
        checks.due("clock(2) after an earlier tick", room.clock(2), 3);
        room.take(0, 1);
        room.take(0, 1);
        room.take(0, 1);
        checks.due("clock(1) after a tick of 3", room.clock(1), 4);
        checks.due("clock(0) after takes by others", room.clock(0), 3);
        for (int wrong : Checks.NO_MEMBERS) {
            checks.due("clock(" + wrong + ")", room.clock(wrong), -1);
        }
        checks.finish();
    }
}
