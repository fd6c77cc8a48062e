/** Counts and prints the answers that are not due; every test ends through finish. */
final class Checks {
    private int wrong = 0;

    void due(String call, long got, long want) {
        if (got != want) {
            wrong++;
            System.out.println(call + " answered " + got + ", due is " + want);
        }
    }

    void due(String what, String got, String want) {
        if (!got.equals(want)) {
            wrong++;
            System.out.println(what + " is " + got + ", due is " + want);
        }
    }

    void finish() {
        if (wrong != 0) {
            System.exit(1);
        }
    }

    static final int[] NO_MEMBERS = {-1, 3, 4, -3, Integer.MIN_VALUE, Integer.MAX_VALUE};

    /** All that can be asked of a room without changing it. */
    static String stateOf(OrderedRoom room) {
        StringBuilder state = new StringBuilder();
        for (int member = 0; member < 3; member++) {
            state.append("[clock ").append(room.clock(member));
            state.append(" held ").append(room.held(member));
            state.append(" read");
            for (int place = 0; place < room.count(member); place++) {
                state.append(' ').append(room.read(member, place));
            }
            state.append(" waiting");
            for (int to = 0; to < 3; to++) {
                state.append(' ').append(room.waiting(member, to));
            }
            state.append(']');
        }
        return state.toString();
    }

    /** Messages 0, 1 and 2 written by members 0, 1 and 2, all with clock 1, and nothing taken. */
    static OrderedRoom roomOfThree() {
        OrderedRoom room = new OrderedRoom();
        room.write(0);
        room.write(1);
        room.write(2);
        return room;
    }
}
