/** Promise 9. */
final class HeldEdgeTest {
    private static final Checks CHECKS = new Checks();
    private static final String[] ROOMS = {"", Rooms.THREE, Rooms.BUSY, Rooms.FORTY_READ};

    public static void main(String[] args) {
        CHECKS.edge("-1 if member is less than 0", () -> wrongMembers(Checks.TOO_SMALL));
        CHECKS.edge("-1 if member is greater than 2", () -> wrongMembers(Checks.TOO_LARGE));
        CHECKS.edge("0, not -1, if the member has no message", HeldEdgeTest::nothingHad);
        CHECKS.edge("0, not -1, if the member has read all that it has", HeldEdgeTest::allRead);
        CHECKS.edge("one's own message is had at once", HeldEdgeTest::ownAtOnce);
        CHECKS.edge("a copy on the way is not had", HeldEdgeTest::copyOnTheWay);
        CHECKS.edge("a tick is no message", HeldEdgeTest::tick);
        CHECKS.edge("a message that is read as it is taken is never held", HeldEdgeTest::readAtOnce);
        CHECKS.edge("all 40, one's own and others'", HeldEdgeTest::forty);
        CHECKS.edge("asking changes nothing", HeldEdgeTest::asking);
        CHECKS.finish();
    }

    private static void wrongMembers(int[] members) {
        for (String before : ROOMS) {
            for (int member : members) {
                Twins.refused(CHECKS, before, "held(" + member + ")", room -> room.held(member));
            }
        }
    }

    private static void nothingHad() {
        for (int member = 0; member < 3; member++) {
            CHECKS.due("held of a new object", new OrderedRoom().held(member), 0);
        }
        CHECKS.due("held(2)", Rooms.after("w0 w1 t2").held(2), 0);
    }

    private static void allRead() {
        OrderedRoom room = Rooms.after(Rooms.FORTY_READ);
        CHECKS.due("held(0)", room.held(0), 0);
        CHECKS.due("held(1)", room.held(1), 0);
        CHECKS.due("held(2)", room.held(2), 39);
    }

    private static void ownAtOnce() {
        for (int member = 0; member < 3; member++) {
            OrderedRoom room = new OrderedRoom();
            for (int number = 0; number < 40; number++) {
                room.write(member);
                CHECKS.due("held(" + member + ")", room.held(member), number + 1);
            }
            room.write(member);
            CHECKS.due("held(" + member + ") after a refused write", room.held(member), 40);
        }
    }

    private static void copyOnTheWay() {
        OrderedRoom room = Rooms.after("2*w0");
        CHECKS.due("held(1)", room.held(1), 0);
        CHECKS.due("held(2)", room.held(2), 0);
        room.take(0, 1);
        CHECKS.due("held(1), one taken", room.held(1), 1);
        CHECKS.due("held(2), one taken by 1", room.held(2), 0);
        CHECKS.due("held(0), one taken by 1", room.held(0), 2);
    }

    private static void tick() {
        OrderedRoom room = Rooms.after("t0 0>1");
        CHECKS.due("held(0)", room.held(0), 0);
        CHECKS.due("held(1)", room.held(1), 0);
    }

    private static void readAtOnce() {
        OrderedRoom room = Rooms.after("t2 2>1 w0");
        CHECKS.due("take(0, 1)", room.take(0, 1), 1);
        CHECKS.due("held(1)", room.held(1), 0);
    }

    private static void forty() {
        OrderedRoom room = Rooms.after("14*w0 13*w1 13*w2 14*0>2");
        CHECKS.due("held(2), 13 own and 14 of 0", room.held(2), 27);
        room = Rooms.after("40*w1 40*1>0");
        CHECKS.due("held(0), 40 of 1", room.held(0), 40);
        CHECKS.due("held(1), 40 own", room.held(1), 40);
    }

    private static void asking() {
        Twins.changesNothing(CHECKS, Rooms.THREE, "held(0)", 1, room -> room.held(0));
        Twins.changesNothing(CHECKS, Rooms.FORTY_READ, "held(2)", 39, room -> room.held(2));
    }
}
