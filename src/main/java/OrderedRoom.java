/** Three members who write to all, and the one order in which all of them read. */
public final class OrderedRoom {
    private static final int MEMBERS = 3;
    private static final int MESSAGES = 40;
    private static final int TICK_LIMIT = 20;
    private static final int REFUSED = -1;
    private static final int NO_MESSAGE = -1;

    // A link is a way from one member to another, numbered from * MEMBERS + to; MEMBERS * MEMBERS in all.
    private static final int LINKS = 9;
    // A tick leaves at most TICK_LIMIT things on a link, and messages add at most MESSAGES more.
    private static final int LINK_SLOTS = 60;
    // LINKS * LINK_SLOTS.
    private static final int ALL_SLOTS = 540;
    // Cells are numbered member * MESSAGES + message (or place); MEMBERS * MESSAGES in all.
    private static final int CELLS = 120;

    private final int[] clocks = new int[MEMBERS];

    private int written;
    private final int[] stampClock = new int[MESSAGES];
    private final int[] stampMember = new int[MESSAGES];

    // Each link is a ring of slots, so that it never runs out however many things pass over it.
    private final int[] slotClock = new int[ALL_SLOTS];
    private final int[] slotMessage = new int[ALL_SLOTS];
    private final int[] firstSlot = new int[LINKS];
    private final int[] onTheWay = new int[LINKS];

    // By link: the clock of the last thing taken over it.
    private final int[] heard = new int[LINKS];

    // Messages that a member has and has not read.
    private final boolean[] unread = new boolean[CELLS];
    private final int[] unreadCount = new int[MEMBERS];

    private final int[] readMessage = new int[CELLS];
    private final int[] readCount = new int[MEMBERS];

    /** A room without messages, all clocks 0: what Java fills new fields with is that state. */
    public OrderedRoom() {
    }

    /** The member writes a message; answers its number, or -1 if refused. */
    public int write(int member) {
        if (!isMember(member) || written >= MESSAGES) {
            return REFUSED;
        }
        int message = written;
        written++;
        clocks[member]++;
        stampClock[message] = clocks[member];
        stampMember[message] = member;
        sendToOthers(member, message);
        // No reading follows: whatever was heard from the others is less than the own clock now.
        receive(member, message);
        return message;
    }

    /** The member sends a tick; answers the member's clock then, or -1 if refused. */
    public int tick(int member) {
        if (!isMember(member) || isCrowded(member)) {
            return REFUSED;
        }
        clocks[member]++;
        sendToOthers(member, NO_MESSAGE);
        return clocks[member];
    }

    /** Member to takes the next thing from member from; answers how many messages it reads by that, or -1 if refused. */
    public int take(int from, int to) {
        if (!isLink(from, to)) {
            return REFUSED;
        }
        int link = linkOf(from, to);
        if (onTheWay[link] == 0) {
            return REFUSED;
        }
        int slot = link * LINK_SLOTS + firstSlot[link];
        firstSlot[link] = (firstSlot[link] + 1) % LINK_SLOTS;
        onTheWay[link]--;
        heard[link] = slotClock[slot];
        advanceClock(to, slotClock[slot]);
        if (slotMessage[slot] != NO_MESSAGE) {
            receive(to, slotMessage[slot]);
        }
        return readAllReady(to);
    }

    /** How many things are on the way from member from to member to, or -1 if there is no such way. */
    public int waiting(int from, int to) {
        if (!isLink(from, to)) {
            return REFUSED;
        }
        int link = linkOf(from, to);
        return onTheWay[link];
    }

    /** The member's clock, or -1 if there is no such member. */
    public int clock(int member) {
        return isMember(member) ? clocks[member] : REFUSED;
    }

    /** How many messages the member has read, or -1 if there is no such member. */
    public int count(int member) {
        return isMember(member) ? readCount[member] : REFUSED;
    }

    /** The number of the message that the member has read at the place, or -1 if there is none. */
    public int read(int member, int place) {
        if (!isMember(member) || place < 0 || place >= readCount[member]) {
            return REFUSED;
        }
        return readMessage[member * MESSAGES + place];
    }

    /** How many messages the member has and has not read, or -1 if there is no such member. */
    public int held(int member) {
        return isMember(member) ? unreadCount[member] : REFUSED;
    }

    /** 1 if what one of the two has read is a beginning of what the other has read, else 0; -1 if refused. */
    public int agree(int a, int b) {
        if (!isMember(a) || !isMember(b)) {
            return REFUSED;
        }
        int shorter = readCount[a] < readCount[b] ? readCount[a] : readCount[b];
        for (int place = 0; place < shorter; place++) {
            if (readMessage[a * MESSAGES + place] != readMessage[b * MESSAGES + place]) {
                return 0;
            }
        }
        return 1;
    }

    private static boolean isMember(int member) {
        return member >= 0 && member < MEMBERS;
    }

    private static boolean isLink(int from, int to) {
        return isMember(from) && isMember(to) && from != to;
    }

    private static int linkOf(int from, int to) {
        return from * MEMBERS + to;
    }

    /** Whether the way to one of the others is too full for a tick of the member. */
    private boolean isCrowded(int member) {
        for (int to = 0; to < MEMBERS; to++) {
            int link = linkOf(member, to);
            if (onTheWay[link] >= TICK_LIMIT) {
                return true;
            }
        }
        return false;
    }

    private void sendToOthers(int member, int message) {
        for (int to = 0; to < MEMBERS; to++) {
            if (to != member) {
                int link = linkOf(member, to);
                send(link, clocks[member], message);
            }
        }
    }

    private void send(int link, int thingClock, int message) {
        int slot = link * LINK_SLOTS + (firstSlot[link] + onTheWay[link]) % LINK_SLOTS;
        slotClock[slot] = thingClock;
        slotMessage[slot] = message;
        onTheWay[link]++;
    }

    private void advanceClock(int member, int thingClock) {
        if (clocks[member] < thingClock) {
            clocks[member] = thingClock;
        }
        clocks[member]++;
    }

    private void receive(int member, int message) {
        unread[member * MESSAGES + message] = true;
        unreadCount[member]++;
    }

    /** Reads until the earliest unread message isn't ready, for no later one may pass it. */
    private int readAllReady(int member) {
        int done = 0;
        for (int turn = 0; turn < MESSAGES; turn++) {
            int message = earliestUnread(member);
            if (message == NO_MESSAGE || !isReady(member, message)) {
                break;
            }
            readNext(member, message);
            done++;
        }
        return done;
    }

    private int earliestUnread(int member) {
        int earliest = NO_MESSAGE;
        for (int message = 0; message < MESSAGES; message++) {
            if (unread[member * MESSAGES + message]
                    && (earliest == NO_MESSAGE || isEarlier(stampClock[message], stampMember[message], earliest))) {
                earliest = message;
            }
        }
        return earliest;
    }

    /** Whether the stamp (stampedClock, stampedMember) is earlier than the stamp of the message. */
    private boolean isEarlier(int stampedClock, int stampedMember, int message) {
        return stampedClock < stampClock[message]
                || (stampedClock == stampClock[message] && stampedMember < stampMember[message]);
    }

    /** Whether nothing with an earlier stamp can still come from those who neither wrote the message nor read it here. */
    private boolean isReady(int member, int message) {
        for (int other = 0; other < MEMBERS; other++) {
            if (other != member && other != stampMember[message]) {
                int link = linkOf(other, member);
                if (isEarlier(heard[link], other, message)) {
                    return false;
                }
            }
        }
        return true;
    }

    private void readNext(int member, int message) {
        unread[member * MESSAGES + message] = false;
        unreadCount[member]--;
        readMessage[member * MESSAGES + readCount[member]] = message;
        readCount[member]++;
    }
}
