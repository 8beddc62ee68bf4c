import java.util.Random;

/**
 * No call throws or fails to end, whatever its arguments are, also after the 512th call, when its
 * answer is free (and so is not looked at).
 */
public final class NeverThrowsTest {
    private static final int OBJECTS = 60;
    private static final int CALLS = 5000;
    private static final int[] EDGES = {Integer.MIN_VALUE, Integer.MIN_VALUE + 1, -1680, -1000, -240,
        -64, -51, -50, -1, 0, 1, 2, 3, 4, 6, 7, 8, 19, 20, 21, 50, 51, 63, 64, 239, 240, 255, 256,
        511, 512, 767, 768, 1679, 1680, 306783379, 613566757, Integer.MAX_VALUE - 1,
        Integer.MAX_VALUE};

    private final Random random = new Random(15);

    public static void main(String[] args) {
        NeverThrowsTest test = new NeverThrowsTest();
        for (int n = 0; n < OBJECTS; n++) {
            StreamWindows x = new StreamWindows(test.edge(), test.edge(), test.edge(), test.edge());
            test.callMany(x);
        }
        test.allEdges();
        Due.end();
    }

    private int edge() {
        return EDGES[random.nextInt(EDGES.length)];
    }

    private void callMany(StreamWindows x) {
        for (int n = 0; n < CALLS; n++) {
            int a = random.nextBoolean() ? edge() : random.nextInt(768);
            int b = random.nextBoolean() ? edge() : random.nextInt(51);
            call(x, random.nextInt(14), a, b);
        }
    }

    private void allEdges() {
        for (int kind = 0; kind <= 2; kind++) {
            StreamWindows x = new StreamWindows(kind, 1, 4, 0);
            for (int a : EDGES) {
                for (int b : EDGES) {
                    for (int which = 0; which < 14; which++) {
                        call(x, which, a, b);
                    }
                }
            }
        }
    }

    private static int call(StreamWindows x, int which, int a, int b) {
        return switch (which) {
            case 0 -> x.arrive(a, b);
            case 1 -> x.read(a);
            case 2 -> x.readAll();
            case 3 -> x.idle(a, b > 0);
            case 4 -> x.position(a);
            case 5 -> x.mark();
            case 6 -> x.results();
            case 7 -> x.result(a, b);
            case 8 -> x.late();
            case 9 -> x.open(a);
            case 10 -> x.pending(a);
            case 11 -> x.keep();
            case 12 -> x.crash();
            default -> x.kept() + x.digest();
        };
    }
}
