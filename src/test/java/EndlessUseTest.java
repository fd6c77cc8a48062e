import java.util.Random;

/** Rule 7 of LANGUAGE.md: no call throws, also long after the 512 calls whose answers are promised. */
final class EndlessUseTest {
    public static void main(String[] args) {
        Random random = new Random(7);
        for (int run = 0; run < 20; run++) {
            OrderedRoom room = new OrderedRoom();
            for (int i = 0; i < 100_000; i++) {
                call(room, random.nextInt(9), argument(random), argument(random));
            }
        }
    }

    private static int argument(Random random) {
        return random.nextInt(10) == 0 ? random.nextInt() : random.nextInt(5) - 1;
    }

    private static void call(OrderedRoom room, int kind, int a, int b) {
        switch (kind) {
            case 0 -> room.write(a);
            case 1 -> room.tick(a);
            case 2 -> room.waiting(a, b);
            case 3 -> room.clock(a);
            case 4 -> room.count(a);
            case 5 -> room.read(a, b);
            case 6 -> room.held(a);
            case 7 -> room.agree(a, b);
            default -> room.take(a, b);
        }
    }
}
