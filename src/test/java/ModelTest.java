import java.util.Random;

/** Long runs of mixed calls, each answer compared with that of PlainModel. */
public final class ModelTest {
    private static final int RUNS = 1500;
    private static final int CALLS = 512;

    // A fixed seed, so that the same runs are made each time.
    private final Random random = new Random(20261115);
    private StreamWindows x;
    private PlainModel model;
    private String name;
    private int step;

    public static void main(String[] args) {
        ModelTest test = new ModelTest();
        for (int run = 0; run < RUNS; run++) {
            test.run(run);
        }
        Due.end();
    }

    private int between(int least, int greatest) {
        return least + random.nextInt(greatest - least + 1);
    }

    private void run(int run) {
        int kind = between(-1, 3);
        int width = between(-1, 10);
        int many = between(-1, 6);
        int lateness = random.nextBoolean() ? between(-2, 5) : between(0, 23);
        name = "run " + run + " (" + kind + ", " + width + ", " + many + ", " + lateness + ")";
        x = new StreamWindows(kind, width, many, lateness);
        model = new PlainModel(kind, width, many, lateness);
        int keys = between(1, 4);
        int spread = between(1, 30);
        // How seldom events come decides how far the times have gone when the sources are full.
        int arrivals = between(10, 60);
        for (step = 0; step < CALLS; step++) {
            int choice = random.nextInt(100);
            if (choice < arrivals) {
                arrive(keys, spread);
            } else if (choice < arrivals + 25) {
                read();
            } else {
                rareOrQuestion();
            }
            if (step % 16 == 0) {
                compareAll();
            }
        }
        compareAll();
    }

    private void due(String call, int got, int want) {
        Due.is(name + ", call " + step + ": " + call, got, want);
    }

    private void arrive(int keys, int spread) {
        int time = Math.min(63, Math.max(0, step / 6 + between(-spread, spread)));
        int code = Due.code(between(0, 2), between(0, keys - 1), time);
        int value = between(-50, 50);
        if (random.nextInt(50) == 0) {
            code = between(-300, 1100);
        }
        if (random.nextInt(50) == 0) {
            value = between(-55, 55);
        }
        due("arrive(" + code + ", " + value + ")", x.arrive(code, value), model.arrive(code, value));
    }

    private void read() {
        int source = random.nextInt(40) == 0 ? between(-2, 4) : between(0, 2);
        due("read(" + source + ")", x.read(source), model.read(source));
    }

    private void rareOrQuestion() {
        int choice = random.nextInt(30);
        if (choice == 0) {
            due("readAll()", x.readAll(), model.readAll());
        } else if (choice < 4) {
            int source = between(-1, 3);
            boolean flag = random.nextBoolean();
            due("idle(" + source + ", " + flag + ")", x.idle(source, flag),
                    model.idle(source, flag));
        } else if (choice < 6) {
            due("keep()", x.keep(), model.keep());
        } else if (choice < 8) {
            due("crash()", x.crash(), model.crash());
        } else {
            question();
        }
    }

    private void question() {
        int a = between(-2, 12);
        int b = between(-1, 7);
        due("position(" + a + ")", x.position(a), model.position(a));
        due("result(" + a + ", " + b + ")", x.result(a, b), model.result(a, b));
        due("open(" + b + ")", x.open(b), model.open(b));
        due("pending(" + b + ")", x.pending(b), model.pending(b));
        due("mark()", x.mark(), model.mark());
        due("digest()", x.digest(), model.digest());
    }

    private void compareAll() {
        due("mark()", x.mark(), model.mark());
        due("late()", x.late(), model.late());
        due("kept()", x.kept(), model.kept());
        due("digest()", x.digest(), model.digest());
        due("results()", x.results(), model.results());
        for (int i = -1; i <= model.results(); i++) {
            for (int what = -1; what <= 7; what++) {
                due("result(" + i + ", " + what + ")", x.result(i, what), model.result(i, what));
            }
        }
        for (int n = -1; n <= 4; n++) {
            due("position(" + n + ")", x.position(n), model.position(n));
            due("open(" + n + ")", x.open(n), model.open(n));
            due("pending(" + n + ")", x.pending(n), model.pending(n));
        }
    }
}
