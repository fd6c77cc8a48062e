/** Promises 1 to 10 together: every run of five writes, ticks and takes up to its first refused one, against the model. */
final class ShortRunsTest {
    private static final int LENGTH = 5;
    private static final Checks CHECKS = new Checks();
    private static final String[] CALLS = {
        "w0", "w1", "w2", "t0", "t1", "t2", "0>1", "0>2", "1>0", "1>2", "2>0", "2>1"};

    public static void main(String[] args) {
        int runs = 1;
        for (int i = 0; i < LENGTH; i++) {
            runs *= CALLS.length;
        }
        for (int run = 0; run < runs; run++) {
            play(run);
        }
        CHECKS.finish();
    }

    /** The run's number, told with one digit for each call. */
    private static void play(int run) {
        OrderedRoom room = new OrderedRoom();
        RoomModel model = new RoomModel();
        StringBuilder told = new StringBuilder();
        int rest = run;
        for (int i = 0; i < LENGTH; i++) {
            String call = CALLS[rest % CALLS.length];
            rest /= CALLS.length;
            told.append(call).append(' ');
            int answer = Rooms.call(room, call);
            CHECKS.due(told.toString(), answer, callModel(model, call));
            if (answer < 0) {
                // Twins shows that a refused call changes nothing, so that what would follow is another run.
                return;
            }
        }
        compare(told.toString(), room, model);
    }

    private static int callModel(RoomModel model, String call) {
        int first = call.charAt(0) - '0';
        int last = call.charAt(call.length() - 1) - '0';
        return switch (call.charAt(0)) {
            case 'w' -> model.write(last);
            case 't' -> model.tick(last);
            default -> model.take(first, last);
        };
    }

    private static void compare(String told, OrderedRoom room, RoomModel model) {
        for (int a = 0; a < 3; a++) {
            CHECKS.due(told + "clock(" + a + ")", room.clock(a), model.clock(a));
            CHECKS.due(told + "count(" + a + ")", room.count(a), model.count(a));
            CHECKS.due(told + "held(" + a + ")", room.held(a), model.held(a));
            for (int place = -1; place <= LENGTH; place++) {
                CHECKS.due(told + "read(" + a + ", " + place + ")", room.read(a, place), model.read(a, place));
            }
            for (int b = 0; b < 3; b++) {
                CHECKS.due(told + "waiting(" + a + ", " + b + ")", room.waiting(a, b), model.waiting(a, b));
                CHECKS.due(told + "agree(" + a + ", " + b + ")", room.agree(a, b), model.agree(a, b));
            }
        }
    }
}
