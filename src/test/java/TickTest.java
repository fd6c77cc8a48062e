/** Promise 3, ordinary use; the boundary cases stand in TickEdgeTest. */
final class TickTest {
    public static void main(String[] args) {
        Checks checks = new Checks();
        OrderedRoom room = new OrderedRoom();
        checks.due("tick(2)", room.tick(2), 1);
        checks.due("tick(2)", room.tick(2), 2);
        checks.due("take(2, 0)", room.take(2, 0), 0);
        checks.due("take(2, 0)", room.take(2, 0), 0);
        checks.due("tick(0)", room.tick(0), 4);
        checks.due("state", Rooms.stateOf(room), "[clock 4 held 0 read waiting -1 1 1]"
                + "[clock 0 held 0 read waiting 0 -1 0]"
                + "[clock 2 held 0 read waiting 0 2 -1]");
        checks.due("number of the first message", room.write(1), 0);
        checks.finish();
    }
}
