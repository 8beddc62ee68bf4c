/** Promise 1: a new object is empty, and its arguments are brought into their ranges. */
public final class NewObjectTest {
    public static void main(String[] args) {
        for (int kind = 0; kind <= 2; kind++) {
            noEvents(kind);
            nothingRead(kind);
        }
        kindTooSmall();
        kindTooLarge();
        kindBetween();
        widthTooSmall();
        widthTooLarge();
        widthBetween();
        manyTooSmall();
        manyTooLarge();
        manyBetween();
        latenessTooSmall();
        latenessTooLarge();
        latenessBetween();
        Due.end();
    }

    private static void noEvents(int kind) {
        Due.sentence("Promise 1: No events");
        StreamWindows x = new StreamWindows(kind, 4, 2, 3);
        Due.is("readAll()", x.readAll(), 0);
        for (int source = 0; source < 3; source++) {
            Due.is("read(" + source + ")", x.read(source), StreamWindows.NONE);
            Due.is("arrive, source " + source, x.arrive(Due.code(source, 0, 0), 0), 1);
        }
    }

    private static void nothingRead(int kind) {
        Due.sentence("Promise 1: nothing read");
        StreamWindows x = new StreamWindows(kind, 4, 2, 3);
        for (int source = 0; source < 3; source++) {
            Due.is("position(" + source + ")", x.position(source), 0);
        }
        for (int key = 0; key < 4; key++) {
            Due.is("open(" + key + ")", x.open(key), 0);
            Due.is("pending(" + key + ")", x.pending(key), 0);
        }
        Due.is("mark()", x.mark(), -1000);
        Due.is("results()", x.results(), 0);
        Due.is("result(0, 0)", x.result(0, 0), StreamWindows.NONE);
        Due.is("late()", x.late(), 0);
        Due.is("kept()", x.kept(), 0);
        Due.is("digest()", x.digest(), 0);
    }

    /** An event at 10, and one at 63 that closes all windows of the first one. */
    private static StreamWindows eventAt10(int kind, int width, int many, int lateness) {
        StreamWindows x = Due.following0(kind, width, many, lateness);
        Due.take(x, 0, 0, 10, 7);
        Due.take(x, 0, 0, 63, 1);
        return x;
    }

    private static void kindTooSmall() {
        Due.sentence("Promise 1: kind: below 0 becomes 0");
        for (int kind : new int[] {Integer.MIN_VALUE, -2, -1, 0}) {
            StreamWindows x = eventAt10(kind, 4, 3, 0);
            Due.is("kind " + kind + ": results()", x.results(), 1);
            Due.result("kind " + kind, x, 0, 0, 8, 12, 1, 7, 7, 7);
        }
    }

    private static void kindTooLarge() {
        Due.sentence("Promise 1: kind: above 2 becomes 2");
        for (int kind : new int[] {2, 3, 4, Integer.MAX_VALUE}) {
            StreamWindows x = eventAt10(kind, 4, 3, 0);
            Due.is("kind " + kind + ": results()", x.results(), 1);
            Due.result("kind " + kind, x, 0, 0, 10, 14, 1, 7, 7, 7);
        }
    }

    private static void kindBetween() {
        Due.sentence("Terms: There are three KINDS");
        StreamWindows x = eventAt10(1, 4, 3, 0);
        Due.is("kind 1: results()", x.results(), 3);
        Due.result("kind 1", x, 0, 0, 0, 12, 1, 7, 7, 7);
        Due.result("kind 1", x, 1, 0, 4, 16, 1, 7, 7, 7);
        Due.result("kind 1", x, 2, 0, 8, 20, 1, 7, 7, 7);
    }

    private static void widthTooSmall() {
        Due.sentence("Promise 1: width is D: below 1 becomes 1");
        for (int width : new int[] {Integer.MIN_VALUE, -3, -1, 0, 1}) {
            Due.result("kind 0, " + width, eventAt10(0, width, 1, 0), 0, 0, 10, 11, 1, 7, 7, 7);
            Due.result("kind 1, " + width, eventAt10(1, width, 2, 0), 0, 0, 9, 11, 1, 7, 7, 7);
            Due.result("kind 2, " + width, eventAt10(2, width, 1, 0), 0, 0, 10, 11, 1, 7, 7, 7);
        }
    }

    private static void widthTooLarge() {
        Due.sentence("Promise 1: width is D: above 8 becomes 8");
        for (int width : new int[] {8, 9, 16, Integer.MAX_VALUE}) {
            Due.result("kind 0, " + width, eventAt10(0, width, 1, 0), 0, 0, 8, 16, 1, 7, 7, 7);
            Due.result("kind 1, " + width, eventAt10(1, width, 2, 0), 0, 0, 0, 16, 1, 7, 7, 7);
            Due.result("kind 2, " + width, eventAt10(2, width, 1, 0), 0, 0, 10, 18, 1, 7, 7, 7);
        }
    }

    private static void widthBetween() {
        Due.sentence("Promise 1: width is D");
        for (int width = 1; width <= 8; width++) {
            int start = 10 / width * width;
            Due.result("kind 0, " + width, eventAt10(0, width, 1, 0), 0,
                    0, start, start + width, 1, 7, 7, 7);
            Due.result("kind 2, " + width, eventAt10(2, width, 1, 0), 0,
                    0, 10, 10 + width, 1, 7, 7, 7);
        }
    }

    private static void manyTooSmall() {
        Due.sentence("Promise 1: many is M: below 1 becomes 1");
        for (int many : new int[] {Integer.MIN_VALUE, -2, -1, 0, 1}) {
            StreamWindows x = eventAt10(1, 4, many, 0);
            Due.is("many " + many + ": results()", x.results(), 1);
            Due.result("many " + many, x, 0, 0, 8, 12, 1, 7, 7, 7);
        }
    }

    private static void manyTooLarge() {
        Due.sentence("Promise 1: many is M: above 4 becomes 4");
        for (int many : new int[] {4, 5, 6, Integer.MAX_VALUE}) {
            StreamWindows x = eventAt10(1, 4, many, 0);
            Due.is("many " + many + ": results()", x.results(), 4);
            Due.result("many " + many, x, 0, 0, -4, 12, 1, 7, 7, 7);
            Due.result("many " + many, x, 3, 0, 8, 24, 1, 7, 7, 7);
        }
    }

    private static void manyBetween() {
        Due.sentence("Promise 1: many is M");
        for (int many = 1; many <= 4; many++) {
            StreamWindows x = eventAt10(1, 4, many, 0);
            Due.is("many " + many + ": results()", x.results(), many);
            Due.result("many " + many, x, 0, 0, 12 - 4 * many, 12, 1, 7, 7, 7);
        }
    }

    private static void latenessTooSmall() {
        Due.sentence("Promise 1: lateness is L: below 0 becomes 0");
        for (int lateness : new int[] {Integer.MIN_VALUE, -20, -1, 0}) {
            Due.is("lateness " + lateness + ": mark()", eventAt10(0, 4, 1, lateness).mark(), 63);
        }
    }

    private static void latenessTooLarge() {
        Due.sentence("Promise 1: lateness is L: above 20 becomes 20");
        for (int lateness : new int[] {20, 21, 40, Integer.MAX_VALUE}) {
            Due.is("lateness " + lateness + ": mark()", eventAt10(0, 4, 1, lateness).mark(), 43);
        }
    }

    private static void latenessBetween() {
        Due.sentence("Promise 1: lateness is L");
        for (int lateness = 0; lateness <= 20; lateness++) {
            Due.is("lateness " + lateness + ": mark()", eventAt10(2, 4, 1, lateness).mark(),
                    63 - lateness);
        }
    }
}
