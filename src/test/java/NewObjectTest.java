/** Promise 1: a new object is empty, and its arguments are brought into their ranges. */
public final class NewObjectTest {
    public static void main(String[] args) {
        for (int kind = 0; kind <= 2; kind++) {
            isEmpty(new StreamWindows(kind, 4, 2, 3));
        }
        kinds();
        widths();
        manies();
        latenesses();
        Due.end();
    }

    private static void isEmpty(StreamWindows x) {
        Due.is("new: mark()", x.mark(), -1000);
        Due.is("new: results()", x.results(), 0);
        Due.is("new: result(0, 0)", x.result(0, 0), StreamWindows.NONE);
        Due.is("new: late()", x.late(), 0);
        Due.is("new: kept()", x.kept(), 0);
        Due.is("new: digest()", x.digest(), 0);
        Due.is("new: readAll()", x.readAll(), 0);
        for (int i = 0; i < 3; i++) {
            Due.is("new: position", x.position(i), 0);
            Due.is("new: read", x.read(i), StreamWindows.NONE);
        }
        for (int key = 0; key < 4; key++) {
            Due.is("new: open", x.open(key), 0);
            Due.is("new: pending", x.pending(key), 0);
        }
        // No source is idle at first: one that has read nothing holds the mark down.
        x.arrive(Due.code(0, 0, 30), 1);
        x.arrive(Due.code(1, 0, 30), 1);
        x.readAll();
        Due.is("new, source 2 not idle: mark()", x.mark(), -1000);
    }

    /** An event at 10 and one at 63 that closes all of the first one's windows. */
    private static StreamWindows eventAt10(int kind, int width, int many, int lateness) {
        StreamWindows x = Due.following0(kind, width, many, lateness);
        Due.take(x, 0, 0, 10, 7);
        Due.take(x, 0, 0, 63, 1);
        return x;
    }

    private static void kinds() {
        for (int kind : new int[] {Integer.MIN_VALUE, -1, 0}) {
            StreamWindows x = eventAt10(kind, 4, 2, 0);
            Due.is("kind " + kind + ": results()", x.results(), 1);
            Due.result("kind " + kind, x, 0, 0, 8, 12, 1, 7, 7, 7);
        }
        StreamWindows one = eventAt10(1, 4, 2, 0);
        Due.is("kind 1: results()", one.results(), 2);
        Due.result("kind 1", one, 0, 0, 4, 12, 1, 7, 7, 7);
        Due.result("kind 1", one, 1, 0, 8, 16, 1, 7, 7, 7);
        for (int kind : new int[] {2, 3, Integer.MAX_VALUE}) {
            StreamWindows x = eventAt10(kind, 4, 2, 0);
            Due.is("kind " + kind + ": results()", x.results(), 1);
            Due.result("kind " + kind, x, 0, 0, 10, 14, 1, 7, 7, 7);
        }
    }

    private static void widths() {
        for (int width : new int[] {Integer.MIN_VALUE, -3, 0, 1}) {
            Due.result("width " + width, eventAt10(0, width, 1, 0), 0, 0, 10, 11, 1, 7, 7, 7);
            Due.result("width " + width, eventAt10(2, width, 1, 0), 0, 0, 10, 11, 1, 7, 7, 7);
        }
        Due.result("width 2", eventAt10(0, 2, 1, 0), 0, 0, 10, 12, 1, 7, 7, 7);
        Due.result("width 7", eventAt10(0, 7, 1, 0), 0, 0, 7, 14, 1, 7, 7, 7);
        for (int width : new int[] {8, 9, Integer.MAX_VALUE}) {
            Due.result("width " + width, eventAt10(0, width, 1, 0), 0, 0, 8, 16, 1, 7, 7, 7);
            Due.result("width " + width, eventAt10(2, width, 1, 0), 0, 0, 10, 18, 1, 7, 7, 7);
        }
    }

    private static void manies() {
        for (int many : new int[] {Integer.MIN_VALUE, -1, 0, 1}) {
            StreamWindows x = eventAt10(1, 4, many, 0);
            Due.is("many " + many + ": results()", x.results(), 1);
            Due.result("many " + many, x, 0, 0, 8, 12, 1, 7, 7, 7);
        }
        StreamWindows three = eventAt10(1, 4, 3, 0);
        Due.is("many 3: results()", three.results(), 3);
        Due.result("many 3", three, 0, 0, 0, 12, 1, 7, 7, 7);
        for (int many : new int[] {4, 5, Integer.MAX_VALUE}) {
            StreamWindows x = eventAt10(1, 4, many, 0);
            Due.is("many " + many + ": results()", x.results(), 4);
            Due.result("many " + many, x, 0, 0, -4, 12, 1, 7, 7, 7);
            Due.result("many " + many, x, 3, 0, 8, 24, 1, 7, 7, 7);
        }
    }

    private static void latenesses() {
        for (int lateness : new int[] {Integer.MIN_VALUE, -1, 0}) {
            Due.is("lateness " + lateness + ": mark()", eventAt10(0, 4, 1, lateness).mark(), 63);
        }
        Due.is("lateness 1: mark()", eventAt10(0, 4, 1, 1).mark(), 62);
        Due.is("lateness 19: mark()", eventAt10(0, 4, 1, 19).mark(), 44);
        for (int lateness : new int[] {20, 21, Integer.MAX_VALUE}) {
            Due.is("lateness " + lateness + ": mark()", eventAt10(0, 4, 1, lateness).mark(), 43);
        }
    }
}
