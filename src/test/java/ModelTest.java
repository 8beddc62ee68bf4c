import java.util.Random;

/** Runs of 512 mixed calls on one object, each answer compared with that of PlainModel. */
public final class ModelTest {
    private static final int RUNS = 3000;
    private static final int CALLS = 512;

    // A fixed seed, so that the same runs are made each time.
    private final Random random = new Random(20261115);
    private StreamWindows x;
    private PlainModel model;
    private String name;
    private int calls;

    public static void main(String[] args) {
        Due.sentence("all promises");
        ModelTest test = new ModelTest();
        for (int run = 0; run < RUNS; run++) {
            test.run(run);
        }
        Due.end();
    }

    private int between(int least, int greatest) {
        return least + random.nextInt(greatest - least + 1);
    }

    private void run(int run) {
        int kind = between(-1, 3);
        int width = between(-1, 10);
        int many = between(-1, 6);
        int lateness = random.nextBoolean() ? between(-2, 5) : between(0, 23);
        name = "run " + run + " (" + kind + ", " + width + ", " + many + ", " + lateness + ")";
        x = new StreamWindows(kind, width, many, lateness);
        model = new PlainModel(kind, width, many, lateness);
        int keys = between(1, 4);
        int spread = between(1, 30);
        // How seldom events come decides how far the times have gone when the sources are full.
        int arrivals = between(8, 40);
        for (calls = 0; calls < CALLS; calls++) {
            int choice = random.nextInt(100);
            if (choice < arrivals) {
                arrive(keys, spread);
            } else if (choice < arrivals + 20) {
                read();
            } else if (choice < arrivals + 30) {
                rare();
            } else {
                question();
            }
        }
    }

    private void due(String call, int got, int want) {
        Due.is(name + ", call " + calls + ": " + call, got, want);
    }

    private void arrive(int keys, int spread) {
        int time = Math.min(63, Math.max(0, calls / 6 + between(-spread, spread)));
        int code = Due.code(between(0, 2), between(0, keys - 1), time);
        int value = between(-50, 50);
        if (random.nextInt(50) == 0) {
            code = between(-300, 1100);
        }
        if (random.nextInt(50) == 0) {
            value = between(-55, 55);
        }
        due("arrive(" + code + ", " + value + ")", x.arrive(code, value), model.arrive(code, value));
    }

    private void read() {
        int source = random.nextInt(40) == 0 ? between(-2, 4) : between(0, 2);
        due("read(" + source + ")", x.read(source), model.read(source));
    }

    private void rare() {
        int choice = random.nextInt(12);
        if (choice < 2) {
            due("readAll()", x.readAll(), model.readAll());
        } else if (choice < 8) {
            int source = between(-1, 3);
            boolean flag = random.nextBoolean();
            due("idle(" + source + ", " + flag + ")", x.idle(source, flag),
                    model.idle(source, flag));
        } else if (choice < 10) {
            due("keep()", x.keep(), model.keep());
        } else {
            due("crash()", x.crash(), model.crash());
        }
    }

    private void question() {
        int n = between(-1, 4);
        switch (random.nextInt(12)) {
            case 0 -> due("position(" + n + ")", x.position(n), model.position(n));
            case 1 -> due("mark()", x.mark(), model.mark());
            case 2 -> due("results()", x.results(), model.results());
            case 3 -> due("late()", x.late(), model.late());
            case 4, 5 -> due("open(" + n + ")", x.open(n), model.open(n));
            case 6, 7 -> due("pending(" + n + ")", x.pending(n), model.pending(n));
            case 8 -> due("kept()", x.kept(), model.kept());
            case 9 -> due("digest()", x.digest(), model.digest());
            default -> result();
        }
    }

    private void result() {
        // One before the first and one after the last too; the latest ones most often.
        int last = model.results();
        int i = random.nextBoolean() ? between(-1, last) : between(Math.max(-1, last - 3), last);
        int what = random.nextInt(10) == 0 ? between(-1, 7) : between(0, 6);
        due("result(" + i + ", " + what + ")", x.result(i, what), model.result(i, what));
    }
}
