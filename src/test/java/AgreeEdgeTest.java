import java.lang.reflect.Field;

/** Promise 10. */
final class AgreeEdgeTest {
    private static final Checks CHECKS = new Checks();

    public static void main(String[] args) {
        CHECKS.edge("-1 if a is less than 0", () -> wrongMembers(Checks.TOO_SMALL, true));
        CHECKS.edge("-1 if a is greater than 2", () -> wrongMembers(Checks.TOO_LARGE, true));
        CHECKS.edge("-1 if b is less than 0", () -> wrongMembers(Checks.TOO_SMALL, false));
        CHECKS.edge("-1 if b is greater than 2", () -> wrongMembers(Checks.TOO_LARGE, false));
        CHECKS.edge("-1 if neither is from 0 to 2, also if they are the same", AgreeEdgeTest::bothWrong);
        CHECKS.edge("1 if neither has read anything", () -> agreeing("", 0, 0, 0));
        CHECKS.edge("1 if just one has read something", () -> agreeing("w0 t2 0>1 2>1", 0, 1, 0));
        CHECKS.edge("1 if what one has read is a beginning, whichever stands first",
                () -> agreeing("3*w0 3*t1 3*t2 3*0>1 2*2>1 3*0>2 3*1>2 1>0 2>0", 1, 2, 3));
        CHECKS.edge("1 if both have read the same",
                () -> agreeing("3*w0 3*0>1 3*0>2 t2 2>1 t1 1>2 2>0 1>0", 3, 3, 3));
        CHECKS.edge("1 for two lengths one apart", () -> agreeing("2*w0 2*t2 2*t1 2*0>1 2>1 2*0>2 2*1>2", 0, 1, 2));
        CHECKS.edge("1 if both have read all 40, or one of them the first alone",
                () -> agreeing(Rooms.FORTY_READ, 40, 40, 1));
        CHECKS.edge("1 for a member and itself", AgreeEdgeTest::withItself);
        CHECKS.edge("1 though the same was taken in other orders", AgreeEdgeTest::otherOrders);
        CHECKS.edge("else 0: other messages at the first place", AgreeEdgeTest::differAtTheFirst);
        CHECKS.edge("else 0: other messages at the last place that both have", AgreeEdgeTest::differAtTheLast);
        CHECKS.edge("1 if only places differ that one of them doesn't have", AgreeEdgeTest::differBeyond);
        CHECKS.edge("asking changes nothing", AgreeEdgeTest::asking);
        CHECKS.finish();
    }

    private static void refusedAgree(String before, int a, int b) {
        Twins.refused(CHECKS, before, "agree(" + a + ", " + b + ")", room -> room.agree(a, b));
    }

    private static void wrongMembers(int[] wrongs, boolean first) {
        for (int wrong : wrongs) {
            for (int member = 0; member < 3; member++) {
                for (String before : new String[] {"", Rooms.BUSY, Rooms.FORTY_READ}) {
                    refusedAgree(before, first ? wrong : member, first ? member : wrong);
                }
            }
        }
    }

    private static void bothWrong() {
        for (int a : Checks.NO_MEMBERS) {
            for (int b : Checks.NO_MEMBERS) {
                refusedAgree("", a, b);
                refusedAgree(Rooms.FORTY_READ, a, b);
            }
        }
    }

    private static void agreeing(String before, int... counts) {
        OrderedRoom room = Rooms.after(before);
        for (int a = 0; a < 3; a++) {
            CHECKS.due("count(" + a + ") after " + before, room.count(a), counts[a]);
            for (int b = 0; b < 3; b++) {
                CHECKS.due("agree(" + a + ", " + b + ") after " + before, room.agree(a, b), 1);
            }
        }
    }

    private static void withItself() {
        for (int member = 0; member < 3; member++) {
            CHECKS.due("nothing read", new OrderedRoom().agree(member, member), 1);
            CHECKS.due("something held", Rooms.after(Rooms.THREE).agree(member, member), 1);
            CHECKS.due("something read", Rooms.after(Rooms.FORTY_READ).agree(member, member), 1);
        }
    }

    private static void otherOrders() {
        agreeing("w2 w1 w0 t0 t1 t2 2*1>0 2*2>0 2*2>1 2*0>1 2*0>2 2*1>2", 3, 3, 3);
    }

    private static void differAtTheFirst() {
        disagreeing(0, new int[] {0}, new int[] {1});
        disagreeing(0, new int[] {0, 1}, new int[] {1});
        disagreeing(0, new int[] {0, 1}, new int[] {1, 0});
        disagreeing(0, new int[] {0, 1, 2}, new int[] {3, 1, 2});
    }

    private static void differAtTheLast() {
        disagreeing(0, new int[] {0, 1, 2}, new int[] {0, 1, 3});
        disagreeing(0, new int[] {0, 1, 2}, new int[] {0, 1, 3, 2});
        int[] one = new int[40];
        int[] other = new int[40];
        for (int place = 0; place < 40; place++) {
            one[place] = place;
            other[place] = place;
        }
        disagreeing(1, one, other);
        other[39] = 0;
        disagreeing(0, one, other);
    }

    private static void differBeyond() {
        disagreeing(1, new int[] {0, 1, 2}, new int[] {0, 1});
        disagreeing(1, new int[] {5}, new int[] {});
    }

    /**
     * No run of calls leads to 0 (what each member reads is always a beginning of the one order of stamps), so that
     * answer can only be seen on a room whose inside is set by force. Who renames those fields renames them here.
     */
    private static void disagreeing(int want, int[] one, int[] other) {
        for (int i = 0; i < 9; i++) {
            int a = i / 3;
            int b = i % 3;
            if (a != b) {
                OrderedRoom room = new OrderedRoom();
                force(room, a, one);
                force(room, b, other);
                CHECKS.due("agree(" + a + ", " + b + ") by force", room.agree(a, b), want);
                CHECKS.due("agree(" + b + ", " + a + ") by force", room.agree(b, a), want);
            }
        }
    }

    private static void force(OrderedRoom room, int member, int[] numbers) {
        int[] readMessage = inside(room, "readMessage");
        System.arraycopy(numbers, 0, readMessage, member * 40, numbers.length);
        inside(room, "readCount")[member] = numbers.length;
    }

    private static int[] inside(OrderedRoom room, String name) {
        try {
            Field field = OrderedRoom.class.getDeclaredField(name);
            field.setAccessible(true);
            return (int[]) field.get(room);
        } catch (ReflectiveOperationException missing) {
            throw new IllegalStateException(missing);
        }
    }

    private static void asking() {
        Twins.changesNothing(CHECKS, Rooms.BUSY, "agree(0, 1)", 1, room -> room.agree(0, 1));
        Twins.changesNothing(CHECKS, Rooms.FORTY_READ, "agree(2, 0)", 1, room -> room.agree(2, 0));
    }
}
