import java.util.ArrayDeque;
import java.util.ArrayList;
import java.util.Comparator;
import java.util.Deque;
import java.util.List;

/** The document's terms once more, with lists, and with reading worked out anew at every question. */
final class RoomModel {
    private record Stamp(int clock, int member) {
        boolean isEarlierThan(Stamp other) {
            return ORDER.compare(this, other) < 0;
        }
    }

    private record Message(int number, Stamp stamp) { }

    /** A tick is a thing without a message. */
    private record Thing(int clock, Message message) { }

    private static final Comparator<Stamp> ORDER =
            Comparator.comparingInt(Stamp::clock).thenComparingInt(Stamp::member);

    private final int[] clocks = new int[3];
    private final int[][] heard = new int[3][3];
    private final List<List<Message>> had = new ArrayList<>();
    private final List<List<Deque<Thing>>> ways = new ArrayList<>();
    private int written = 0;

    RoomModel() {
        for (int member = 0; member < 3; member++) {
            had.add(new ArrayList<>());
            List<Deque<Thing>> row = new ArrayList<>();
            for (int to = 0; to < 3; to++) {
                row.add(new ArrayDeque<>());
            }
            ways.add(row);
        }
    }

    int write(int member) {
        if (!known(member) || written == 40) {
            return -1;
        }
        clocks[member]++;
        Message message = new Message(written++, new Stamp(clocks[member], member));
        had.get(member).add(message);
        setOut(member, new Thing(clocks[member], message));
        return message.number();
    }

    int tick(int member) {
        if (!known(member)) {
            return -1;
        }
        for (Deque<Thing> way : ways.get(member)) {
            if (way.size() >= 20) {
                return -1;
            }
        }
        clocks[member]++;
        setOut(member, new Thing(clocks[member], null));
        return clocks[member];
    }

    int take(int from, int to) {
        if (waiting(from, to) <= 0) {
            return -1;
        }
        int before = count(to);
        Thing thing = ways.get(from).get(to).removeFirst();
        clocks[to] = Math.max(clocks[to], thing.clock()) + 1;
        heard[to][from] = thing.clock();
        if (thing.message() != null) {
            had.get(to).add(thing.message());
        }
        return count(to) - before;
    }

    int waiting(int from, int to) {
        return known(from) && known(to) && from != to ? ways.get(from).get(to).size() : -1;
    }

    int clock(int member) {
        return known(member) ? clocks[member] : -1;
    }

    int count(int member) {
        return known(member) ? readBy(member).size() : -1;
    }

    int read(int member, int place) {
        return known(member) && place >= 0 && place < count(member) ? readBy(member).get(place) : -1;
    }

    int held(int member) {
        return known(member) ? had.get(member).size() - count(member) : -1;
    }

    int agree(int a, int b) {
        if (!known(a) || !known(b)) {
            return -1;
        }
        int shorter = Math.min(count(a), count(b));
        return readBy(a).subList(0, shorter).equals(readBy(b).subList(0, shorter)) ? 1 : 0;
    }

    private static boolean known(int member) {
        return member >= 0 && member <= 2;
    }

    private void setOut(int from, Thing thing) {
        for (int to = 0; to < 3; to++) {
            if (to != from) {
                ways.get(from).get(to).addLast(thing);
            }
        }
    }

    private List<Integer> readBy(int member) {
        List<Message> inOrder = new ArrayList<>(had.get(member));
        inOrder.sort(Comparator.comparing(Message::stamp, ORDER));
        List<Integer> numbers = new ArrayList<>();
        for (Message message : inOrder) {
            for (int other = 0; other < 3; other++) {
                boolean matters = other != member && other != message.stamp().member();
                if (matters && new Stamp(heard[member][other], other).isEarlierThan(message.stamp())) {
                    return numbers;
                }
            }
            numbers.add(message.number());
        }
        return numbers;
    }
}
