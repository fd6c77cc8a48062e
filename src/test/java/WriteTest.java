/** Promise 2, ordinary use; the boundary cases stand in WriteEdgeTest. */
final class WriteTest {
    public static void main(String[] args) {
        Checks checks = new Checks();
        OrderedRoom room = new OrderedRoom();
        checks.due("write(1)", room.write(1), 0);
        checks.due("write(1)", room.write(1), 1);
        checks.due("write(0)", room.write(0), 2);
        checks.due("state", Rooms.stateOf(room), "[clock 1 held 1 read waiting -1 1 1]"
                + "[clock 2 held 2 read waiting 2 -1 2]"
                + "[clock 0 held 0 read waiting 0 0 -1]");
        checks.finish();
    }
}
