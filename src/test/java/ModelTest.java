import java.util.Random;

/** Promises 1 to 10 together: long mixed runs, with fixed seeds, against the model. */
final class ModelTest {
    private static final int RUNS = 3000;
    private static final int CALLS = 512;
    private static final Checks CHECKS = new Checks();

    public static void main(String[] args) {
        for (int seed = 0; seed < RUNS; seed++) {
            run(seed);
        }
        CHECKS.finish();
    }

    private static void run(int seed) {
        Random random = new Random(seed);
        OrderedRoom room = new OrderedRoom();
        RoomModel model = new RoomModel();
        // Other weights in each run, so that some crowd the ways and others empty them.
        int writes = 1 + random.nextInt(8);
        int ticks = writes + random.nextInt(12);
        int takes = ticks + 1 + random.nextInt(40);
        int all = takes + 1 + random.nextInt(20);
        for (int i = 0; i < CALLS; i++) {
            int pick = random.nextInt(all);
            int kind = pick < writes ? 0 : pick < ticks ? 1 : pick < takes ? 2 : 3 + random.nextInt(7);
            int a = member(random);
            int b = kind == 7 ? random.nextInt(44) - 2 : member(random);
            String call = "seed " + seed + ", call " + i + ", kind " + kind + " (" + a + ", " + b + ")";
            CHECKS.due(call, ask(room, kind, a, b), askModel(model, kind, a, b));
        }
    }

    private static int member(Random random) {
        if (random.nextInt(60) == 0) {
            return Checks.NO_MEMBERS[random.nextInt(Checks.NO_MEMBERS.length)];
        }
        return random.nextInt(3);
    }

    private static int ask(OrderedRoom room, int kind, int a, int b) {
        return switch (kind) {
            case 0 -> room.write(a);
            case 1 -> room.tick(a);
            case 2 -> room.take(a, b);
            case 3 -> room.waiting(a, b);
            case 4 -> room.clock(a);
            case 5 -> room.count(a);
            case 6 -> room.held(a);
            case 7 -> room.read(a, b);
            case 8 -> room.agree(a, b);
            default -> room.read(a, 0);
        };
    }

    private static int askModel(RoomModel model, int kind, int a, int b) {
        return switch (kind) {
            case 0 -> model.write(a);
            case 1 -> model.tick(a);
            case 2 -> model.take(a, b);
            case 3 -> model.waiting(a, b);
            case 4 -> model.clock(a);
            case 5 -> model.count(a);
            case 6 -> model.held(a);
            case 7 -> model.read(a, b);
            case 8 -> model.agree(a, b);
            default -> model.read(a, 0);
        };
    }
}
