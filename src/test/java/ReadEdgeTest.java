/** Promise 8. */
final class ReadEdgeTest {
    private static final Checks CHECKS = new Checks();

    public static void main(String[] args) {
        CHECKS.edge("-1 if member is less than 0", () -> wrongMembers(Checks.TOO_SMALL));
        CHECKS.edge("-1 if member is greater than 2", () -> wrongMembers(Checks.TOO_LARGE));
        CHECKS.edge("-1 at a place less than 0", ReadEdgeTest::placeTooSmall);
        CHECKS.edge("-1 at the place after the last", ReadEdgeTest::placeAfterTheLast);
        CHECKS.edge("-1 at any place if nothing has been read", ReadEdgeTest::nothingRead);
        CHECKS.edge("-1 at place 40, also when all 40 have been read", ReadEdgeTest::placeForty);
        CHECKS.edge("from 0: the first place and the last", ReadEdgeTest::firstAndLast);
        CHECKS.edge("a message that is had and not read stands at no place", ReadEdgeTest::heldIsNotRead);
        CHECKS.edge("a message keeps its place", ReadEdgeTest::keepsItsPlace);
        CHECKS.edge("what this member has read, not another one", ReadEdgeTest::ownPlaces);
        CHECKS.finish();
    }

    private static void refusedRead(String before, int member, int place) {
        Twins.refused(CHECKS, before, "read(" + member + ", " + place + ")", room -> room.read(member, place));
    }

    private static void wrongMembers(int[] members) {
        for (int member : members) {
            refusedRead("", member, 0);
            refusedRead(Rooms.BUSY, member, 0);
            refusedRead(Rooms.FORTY_READ, member, 0);
            refusedRead(Rooms.FORTY_READ, member, 40);
            refusedRead(Rooms.FORTY_READ, member, -1);
        }
    }

    /** Members 0 and 1 have read 40, so that a place before the first of 1 or 2 would find another's. */
    private static void placeTooSmall() {
        for (int place : new int[] {-1, -2, -39, -40, -41, -80, Integer.MIN_VALUE}) {
            for (int member = 0; member < 3; member++) {
                refusedRead(Rooms.FORTY_READ, member, place);
            }
        }
    }

    private static void placeAfterTheLast() {
        String before = "3*w0 3*0>1 ";
        refusedRead(before + "t2 2>1", 1, 1);
        refusedRead(before + "2*t2 2*2>1", 1, 2);
        refusedRead(before + "3*t2 3*2>1", 1, 3);
        refusedRead(Rooms.FORTY_READ, 2, 1);
    }

    private static void nothingRead() {
        for (int place : new int[] {0, 1, 2, 39, 40, 41, Integer.MAX_VALUE}) {
            refusedRead("", 0, place);
            refusedRead(Rooms.THREE, 1, place);
            refusedRead(Rooms.FORTY_OF_ONE, 0, place);
        }
    }

    private static void placeForty() {
        for (int place : new int[] {40, 41, 79, 80, 119, 120, Integer.MAX_VALUE}) {
            for (int member = 0; member < 3; member++) {
                refusedRead(Rooms.FORTY_READ, member, place);
            }
        }
    }

    private static void firstAndLast() {
        Twins.changesNothing(CHECKS, Rooms.FORTY_READ, "read(0, 0)", 0, room -> room.read(0, 0));
        Twins.changesNothing(CHECKS, Rooms.FORTY_READ, "read(0, 39)", 39, room -> room.read(0, 39));
        Twins.changesNothing(CHECKS, Rooms.FORTY_READ, "read(1, 0)", 0, room -> room.read(1, 0));
        Twins.changesNothing(CHECKS, Rooms.FORTY_READ, "read(1, 39)", 39, room -> room.read(1, 39));
        Twins.changesNothing(CHECKS, Rooms.FORTY_READ, "read(2, 0)", 0, room -> room.read(2, 0));
    }

    private static void heldIsNotRead() {
        OrderedRoom room = Rooms.after("2*w0 2*0>1 t2 2>1");
        CHECKS.due("held(1)", room.held(1), 1);
        CHECKS.due("read(1, 0)", room.read(1, 0), 0);
        CHECKS.due("read(1, 1)", room.read(1, 1), -1);
        CHECKS.due("read(0, 0), the writer's own", room.read(0, 0), -1);
    }

    private static void keepsItsPlace() {
        OrderedRoom room = Rooms.after("w2 w1 w0 1>0 2>0");
        CHECKS.due("read(0, 0)", room.read(0, 0), 2);
        CHECKS.due("read(0, 1)", room.read(0, 1), 1);
        Rooms.play(room, "t1 1>0 w1 t2 2>0 1>0");
        CHECKS.due("read(0, 0) later", room.read(0, 0), 2);
        CHECKS.due("read(0, 1) later", room.read(0, 1), 1);
        CHECKS.due("read(0, 2)", room.read(0, 2), 0);
    }

    private static void ownPlaces() {
        OrderedRoom room = Rooms.after("w1 w0 t0 t2 2*0>1 2>1");
        CHECKS.due("read(1, 0)", room.read(1, 0), 1);
        CHECKS.due("read(1, 1)", room.read(1, 1), 0);
        for (int place = 0; place < 2; place++) {
            CHECKS.due("read(0, " + place + ")", room.read(0, place), -1);
            CHECKS.due("read(2, " + place + ")", room.read(2, place), -1);
        }
    }
}
