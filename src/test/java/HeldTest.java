/** Promise 9, ordinary use; the boundary cases stand in HeldEdgeTest. */
final class HeldTest {
    public static void main(String[] args) {
        Checks checks = new Checks();
        OrderedRoom room = new OrderedRoom();
        room.write(0);
        checks.due("held(0), the own one at once", room.held(0), 1);
        checks.due("held(1), a copy on the way", room.held(1), 0);
        room.write(1);
        room.write(2);
        room.take(1, 0);
        checks.due("held(0), two had", room.held(0), 2);
        room.take(2, 0);
        checks.due("held(0), three had and two read", room.held(0), 1);
        room.tick(1);
        room.take(1, 0);
        checks.due("held(0), all read", room.held(0), 0);
        room.tick(0);
        room.take(0, 2);
        room.take(0, 2);
        checks.due("held(2), a tick is no message", room.held(2), 2);
        for (int wrong : Checks.NO_MEMBERS) {
            checks.due("held(" + wrong + ")", room.held(wrong), -1);
        }
        checks.finish();
    }
}
