/** Promise 8, ordinary use; the boundary cases stand in ReadEdgeTest. */
final class ReadTest {
    public static void main(String[] args) {
        Checks checks = new Checks();
        OrderedRoom room = new OrderedRoom();
        // Written in the order opposite to that of the stamps, and had in yet another one.
        room.write(2);
        room.write(1);
        room.write(0);
        room.take(1, 0);
        room.take(2, 0);
        checks.due("read(0, 0)", room.read(0, 0), 2);
        checks.due("read(0, 1)", room.read(0, 1), 1);
        checks.due("read(0, 2), had and not read", room.read(0, 2), -1);
        checks.due("read(1, 0), had and not read", room.read(1, 0), -1);
        room.tick(1);
        room.take(1, 0);
        checks.due("read(0, 2)", room.read(0, 2), 0);
        int[] noPlaces = {3, 39, 40, 41, 120, -1, -40, Integer.MIN_VALUE, Integer.MAX_VALUE};
        for (int place : noPlaces) {
            checks.due("read(0, " + place + ")", room.read(0, place), -1);
            // Place -1 of member 1 must not reach into what member 0 has read.
            checks.due("read(1, " + place + ")", room.read(1, place), -1);
        }
        for (int wrong : Checks.NO_MEMBERS) {
            checks.due("read(" + wrong + ", 0)", room.read(wrong, 0), -1);
            checks.due("read(" + wrong + ", -1)", room.read(wrong, -1), -1);
        }
        checks.finish();
    }
}
