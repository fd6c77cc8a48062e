/** Promise 7, ordinary use; the boundary cases stand in CountEdgeTest. */
final class CountTest {
    public static void main(String[] args) {
        Checks checks = new Checks();
        OrderedRoom room = Rooms.after(Rooms.THREE);
        checks.due("count(0) of the own one, unread", room.count(0), 0);
        room.take(1, 0);
        checks.due("count(0), one other heard", room.count(0), 0);
        room.take(2, 0);
        checks.due("count(0), both heard", room.count(0), 2);
        checks.due("count(1), nothing taken", room.count(1), 0);
        room.tick(1);
        room.take(1, 0);
        checks.due("count(0), a later tick", room.count(0), 3);
        room.tick(1);
        room.take(1, 0);
        checks.due("count(0), each read once", room.count(0), 3);
        for (int wrong : Checks.NO_MEMBERS) {
            checks.due("count(" + wrong + ")", room.count(wrong), -1);
        }
        checks.finish();
    }
}
