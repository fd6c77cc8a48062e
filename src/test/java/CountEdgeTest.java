/** Promise 7. */
final class CountEdgeTest {
    private static final Checks CHECKS = new Checks();
    private static final String[] ROOMS = {"", Rooms.THREE, Rooms.BUSY, Rooms.FORTY_READ};

    public static void main(String[] args) {
        CHECKS.edge("-1 if member is less than 0", () -> wrongMembers(Checks.TOO_SMALL));
        CHECKS.edge("-1 if member is greater than 2", () -> wrongMembers(Checks.TOO_LARGE));
        CHECKS.edge("0, not -1, if the member has read nothing", CountEdgeTest::nothingRead);
        CHECKS.edge("what is had and not read does not count", CountEdgeTest::heldDoesNotCount);
        CHECKS.edge("what the others have read does not count", CountEdgeTest::othersDoNotCount);
        CHECKS.edge("all 40", CountEdgeTest::forty);
        CHECKS.edge("as many as the takes answered", CountEdgeTest::sumOfTakes);
        CHECKS.edge("asking changes nothing", CountEdgeTest::asking);
        CHECKS.finish();
    }

    private static void wrongMembers(int[] members) {
        for (String before : ROOMS) {
            for (int member : members) {
                Twins.refused(CHECKS, before, "count(" + member + ")", room -> room.count(member));
            }
        }
    }

    private static void nothingRead() {
        for (int member = 0; member < 3; member++) {
            CHECKS.due("count of a new object", new OrderedRoom().count(member), 0);
            CHECKS.due("count after 40 writes", Rooms.after(Rooms.FORTY_OF_ALL).count(member), 0);
        }
    }

    private static void heldDoesNotCount() {
        OrderedRoom room = Rooms.after("3*w0 3*0>1");
        CHECKS.due("count(0)", room.count(0), 0);
        CHECKS.due("count(1)", room.count(1), 0);
        Rooms.play(room, "t2 2>1");
        CHECKS.due("count(1), one of three read", room.count(1), 1);
    }

    private static void othersDoNotCount() {
        OrderedRoom room = Rooms.after("w0 t2 0>1 2>1");
        CHECKS.due("count(0)", room.count(0), 0);
        CHECKS.due("count(1)", room.count(1), 1);
        CHECKS.due("count(2)", room.count(2), 0);
    }

    private static void forty() {
        OrderedRoom room = Rooms.after(Rooms.FORTY_READ);
        CHECKS.due("count(0)", room.count(0), 40);
        CHECKS.due("count(1)", room.count(1), 40);
        CHECKS.due("count(2)", room.count(2), 1);
    }

    private static void sumOfTakes() {
        OrderedRoom room = Rooms.after("6*w0 6*w1 6*w2");
        int sum = 0;
        for (int i = 0; i < 6; i++) {
            sum += room.take(1, 0);
            CHECKS.due("count(0)", room.count(0), sum);
            sum += room.take(2, 0);
            CHECKS.due("count(0)", room.count(0), sum);
        }
        // (6, 0) and (6, 1) are ready by (6, 1) and (6, 2); (6, 2) still needs more of 1.
        CHECKS.due("sum", sum, 17);
    }

    private static void asking() {
        Twins.changesNothing(CHECKS, Rooms.THREE, "count(0)", 0, room -> room.count(0));
        Twins.changesNothing(CHECKS, Rooms.FORTY_READ, "count(1)", 40, room -> room.count(1));
    }
}
