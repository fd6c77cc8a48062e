/** Promise 1, ordinary use; the boundary cases stand in NewObjectEdgeTest. */
final class NewObjectTest {
    public static void main(String[] args) {
        Checks checks = new Checks();
        OrderedRoom room = new OrderedRoom();
        String empty = "[clock 0 held 0 read waiting -1 0 0]"
                + "[clock 0 held 0 read waiting 0 -1 0]"
                + "[clock 0 held 0 read waiting 0 0 -1]";
        checks.due("a new object", Rooms.stateOf(room), empty);
        for (int member = 0; member < 3; member++) {
            checks.due("count of " + member, room.count(member), 0);
            checks.due("read of " + member, room.read(member, 0), -1);
        }
        room.write(0);
        room.tick(1);
        room.take(0, 1);
        checks.due("a second object", Rooms.stateOf(new OrderedRoom()), empty);
        checks.finish();
    }
}
