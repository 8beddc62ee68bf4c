/** Promise 4: readAll. */
public final class ReadAllTest {
    private static final int[][] PAIRS = {{0, 1}, {0, 2}, {1, 2}};

    public static void main(String[] args) {
        nothingToRead();
        everythingToRead();
        idleSourcesToo();
        onlyWhatWasNotRead();
        mostFirst();
        mostOfThoseNotRead();
        eachTime();
        leastNumberOfTwo();
        leastNumberOfThree();
        countsReadings();
        Due.end();
    }

    private static void nothingToRead() {
        Due.sentence("Promise 4: Reads all events that were not read (there are none)");
        StreamWindows x = new StreamWindows(0, 1, 1, 0);
        Due.is("no events: readAll()", x.readAll(), 0);
        Due.take(x, 2, 0, 5, 1);
        Due.is("all were read: readAll()", x.readAll(), 0);
        Due.is("position(2)", x.position(2), 1);
    }

    private static void everythingToRead() {
        Due.sentence("Promise 4: Reads all events that were not read (sixty)");
        StreamWindows x = new StreamWindows(2, 8, 4, 20);
        for (int n = 0; n < 60; n++) {
            x.arrive(Due.code(n % 3, n % 4, n), 1);
        }
        Due.is("readAll()", x.readAll(), 60);
        for (int source = 0; source < 3; source++) {
            Due.is("position(" + source + ")", x.position(source), 20);
        }
        Due.is("readAll() again", x.readAll(), 0);
    }

    private static void idleSourcesToo() {
        Due.sentence("Promise 4: Reads all events that were not read (of idle sources too)");
        for (int idle = 0; idle < 8; idle++) {
            StreamWindows x = new StreamWindows(0, 8, 1, 0);
            for (int source = 0; source < 3; source++) {
                x.idle(source, (idle >> source & 1) == 1);
                x.arrive(Due.code(source, source, 3), 1);
                x.arrive(Due.code(source, source, 4), 1);
            }
            Due.is("readAll(), idle " + idle, x.readAll(), 6);
            for (int source = 0; source < 3; source++) {
                Due.is("position(" + source + "), idle " + idle, x.position(source), 2);
                Due.is("pending(" + source + "), idle " + idle, x.pending(source), 2);
            }
        }
    }

    private static void onlyWhatWasNotRead() {
        Due.sentence("Promise 4: Reads all events that were not read (no others)");
        StreamWindows x = new StreamWindows(0, 8, 1, 0);
        Due.take(x, 0, 0, 1, 1);
        x.arrive(Due.code(0, 0, 2), 2);
        x.arrive(Due.code(1, 0, 3), 4);
        Due.is("readAll()", x.readAll(), 2);
        Due.is("pending(0): each counts once", x.pending(0), 7);
        x.keep();
        x.arrive(Due.code(2, 0, 4), 8);
        Due.is("readAll()", x.readAll(), 1);
        x.crash();
        Due.is("readAll() after a crash", x.readAll(), 1);
        Due.is("pending(0)", x.pending(0), 15);
    }

    /** The mark follows the source with most, so that the one event of another is late. */
    private static void mostFirst() {
        Due.sentence("Promise 4: each time one of the source that has most of them");
        for (int most = 0; most < 3; most++) {
            for (int other = 0; other < 3; other++) {
                if (other == most) {
                    continue;
                }
                StreamWindows x = Due.following(most, 0, 1, 1, 0);
                x.arrive(Due.code(other, 0, 10), 1);
                x.arrive(Due.code(most, 0, 50), 2);
                x.arrive(Due.code(most, 0, 51), 3);
                Due.is("readAll()", x.readAll(), 3);
                Due.is(most + " before " + other + ": late()", x.late(), 1);
            }
        }
    }

    private static void mostOfThoseNotRead() {
        Due.sentence("Promise 4: most of them (of those that were not read)");
        StreamWindows x = Due.following(1, 0, 1, 1, 0);
        for (int n = 0; n < 4; n++) {
            x.arrive(Due.code(0, 0, 10), 1);
        }
        x.read(0);
        x.read(0);
        x.read(0);
        x.arrive(Due.code(1, 0, 50), 2);
        x.arrive(Due.code(1, 0, 51), 3);
        Due.is("readAll()", x.readAll(), 3);
        Due.is("source 0 had four, but one to read: late()", x.late(), 1);
    }

    private static void eachTime() {
        Due.sentence("Promise 4: one after the other: each time");
        // Source 2 goes down from three to two, and is then level with source 1, whose turn it is.
        StreamWindows x = Due.following(2, 0, 1, 1, 0);
        x.arrive(Due.code(1, 0, 10), 1);
        x.arrive(Due.code(1, 0, 10), 1);
        x.arrive(Due.code(2, 0, 5), 2);
        x.arrive(Due.code(2, 0, 20), 2);
        x.arrive(Due.code(2, 0, 30), 3);
        Due.is("readAll()", x.readAll(), 5);
        Due.is("the second of source 1 is late: late()", x.late(), 1);
        Due.result("source 2", x, 0, 0, 5, 6, 1, 2, 2, 2);
        Due.result("source 1", x, 1, 0, 10, 11, 1, 1, 1, 1);
    }

    private static void leastNumberOfTwo() {
        Due.sentence("Promise 4: of several the one with the least number (of two)");
        for (int[] pair : PAIRS) {
            String name = "sources " + pair[0] + " and " + pair[1];
            StreamWindows x = Due.following(pair[1], 0, 1, 1, 0);
            x.arrive(Due.code(pair[0], 0, 10), 1);
            x.arrive(Due.code(pair[1], 0, 50), 2);
            x.readAll();
            Due.is(name + ": the lesser came before the mark rose: late()", x.late(), 0);
            StreamWindows y = Due.following(pair[0], 0, 1, 1, 0);
            y.arrive(Due.code(pair[0], 0, 50), 1);
            y.arrive(Due.code(pair[1], 0, 10), 2);
            y.readAll();
            Due.is(name + ": the greater came after: late()", y.late(), 1);
        }
    }

    private static void leastNumberOfThree() {
        Due.sentence("Promise 4: of several the one with the least number (of three)");
        StreamWindows x = Due.following(1, 0, 1, 1, 0);
        x.arrive(Due.code(0, 0, 10), 1);
        x.arrive(Due.code(1, 0, 50), 2);
        x.arrive(Due.code(2, 0, 10), 4);
        Due.is("readAll()", x.readAll(), 3);
        Due.is("source 2 alone: late()", x.late(), 1);
        Due.result("source 0 came first", x, 0, 0, 10, 11, 1, 1, 1, 1);
    }

    private static void countsReadings() {
        Due.sentence("Promise 4: Answers how many were read");
        StreamWindows x = Due.following0(1, 1, 4, 0);
        x.arrive(Due.code(0, 0, 10), 1);
        x.arrive(Due.code(0, 0, 60), 1);
        x.arrive(Due.code(1, 0, 1), 1);
        Due.is("readAll(), a late one among them", x.readAll(), 3);
        Due.is("late()", x.late(), 1);
        Due.is("results()", x.results(), 4);
    }
}
