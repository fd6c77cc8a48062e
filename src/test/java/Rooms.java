/** Rooms led to a state by calls told in short, and what can be seen of them. */
final class Rooms {
    /** Messages 0, 1 and 2 of members 0, 1 and 2, all with clock 1, and on all six ways. */
    static final String THREE = "w0 w1 w2";
    /** Something read, something held and something on the way, and no two members alike. */
    static final String BUSY = "w2 w0 t1 w1 2>0 1>0 1>0 t2 2>0 0>1 t0 w2 2>1";
    /** One way filled as far as it goes: twenty ticks, then all messages. */
    static final String FULL_WAY = "20*t2 40*w2";
    static final String FORTY_OF_ONE = "40*w0";
    static final String FORTY_OF_ALL = "14*w0 13*w1 13*w2";
    /** Members 0 and 1 have read all 40 messages of member 0; member 2 has all, and has read the first. */
    static final String FORTY_READ = "t1 1>2 40*w0 40*0>1 40*0>2 t1 t2 2*1>0 2>0 2>1";

    private Rooms() {
    }

    static OrderedRoom after(String calls) {
        OrderedRoom room = new OrderedRoom();
        play(room, calls);
        return room;
    }

    /** Plays calls as "w0" (write), "t0" (tick), "0>1" (take), "20*t0" (twenty times); answers what the last one did. */
    static int play(OrderedRoom room, String calls) {
        int answer = 0;
        for (String word : calls.split(" ")) {
            if (word.isEmpty()) {
                continue;
            }
            int star = word.indexOf('*');
            int times = star < 0 ? 1 : Integer.parseInt(word.substring(0, star));
            for (int i = 0; i < times; i++) {
                answer = call(room, word.substring(star + 1));
                if (answer < 0) {
                    throw new IllegalStateException("'" + calls + "': refused at " + word);
                }
            }
        }
        return answer;
    }

    /** One call told in short; answers what it did, also if it was refused. */
    static int call(OrderedRoom room, String word) {
        int first = word.charAt(0) - '0';
        int last = word.charAt(word.length() - 1) - '0';
        return switch (word.charAt(0)) {
            case 'w' -> room.write(last);
            case 't' -> room.tick(last);
            default -> room.take(first, last);
        };
    }

    /** All that can be asked of a room without changing it. */
    static String stateOf(OrderedRoom room) {
        StringBuilder state = new StringBuilder();
        for (int member = 0; member < 3; member++) {
            state.append("[clock ").append(room.clock(member));
            state.append(" held ").append(room.held(member));
            state.append(" read").append(readBy(room, member));
            state.append(" waiting");
            for (int to = 0; to < 3; to++) {
                state.append(' ').append(room.waiting(member, to));
            }
            state.append(']');
        }
        return state.toString();
    }

    /** The numbers of what the member has read, each after a blank. */
    static String readBy(OrderedRoom room, int member) {
        StringBuilder numbers = new StringBuilder();
        int count = room.count(member);
        for (int place = 0; place < count; place++) {
            numbers.append(' ').append(room.read(member, place));
        }
        return numbers.toString();
    }
}
