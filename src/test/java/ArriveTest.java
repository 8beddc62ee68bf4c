/** Promise 2: arrive. */
public final class ArriveTest {
    public static void main(String[] args) {
        codesAndValues();
        badBeforeFull();
        changesNothingElse();
        Due.end();
    }

    private static void codesAndValues() {
        StreamWindows x = new StreamWindows(0, 1, 1, 0);
        for (int code : new int[] {-1, 768, Integer.MIN_VALUE, Integer.MAX_VALUE}) {
            Due.is("arrive(" + code + ", 0)", x.arrive(code, 0), StreamWindows.BAD);
        }
        for (int value : new int[] {-51, 51, Integer.MIN_VALUE, Integer.MAX_VALUE}) {
            Due.is("arrive(0, " + value + ")", x.arrive(0, value), StreamWindows.BAD);
        }
        Due.is("readAll() after refused ones", x.readAll(), 0);
        Due.is("arrive(0, -50)", x.arrive(0, -50), 1);
        Due.is("arrive(255, 50)", x.arrive(255, 50), 2);
        Due.is("arrive(256, 1)", x.arrive(256, 1), 1);
        Due.is("arrive(511, 2)", x.arrive(511, 2), 2);
        Due.is("arrive(512, 3)", x.arrive(512, 3), 1);
        Due.is("arrive(767, 4)", x.arrive(767, 4), 2);
        x.readAll();
        // All marks are 63 then, so that only the events at 63 are open still.
        Due.is("results()", x.results(), 1);
        Due.result("three sources, key 0, time 0", x, 0, 0, 0, 1, 3, -46, -50, 3);
        Due.is("open(3)", x.open(3), 1);
        Due.is("pending(3)", x.pending(3), 56);

        // Every part of the code: source 1, key 2, time 37.
        StreamWindows y = new StreamWindows(0, 1, 1, 0);
        y.idle(0, true);
        y.idle(2, true);
        y.arrive(64 * (4 * 1 + 2) + 37, 9);
        Due.is("read(1)", y.read(1), 0);
        Due.is("mark()", y.mark(), 37);
        Due.is("pending(2)", y.pending(2), 9);
    }

    private static void badBeforeFull() {
        StreamWindows x = new StreamWindows(1, 8, 4, 20);
        for (int source = 0; source < 3; source++) {
            for (int n = 1; n <= 20; n++) {
                Due.is("arrive " + n, x.arrive(Due.code(source, n % 4, n), n), n);
            }
            Due.is("arrive 21", x.arrive(Due.code(source, 0, 0), 0), StreamWindows.FULL);
            Due.is("full, value 51", x.arrive(Due.code(source, 0, 0), 51), StreamWindows.BAD);
        }
        Due.is("full, code 768", x.arrive(768, 0), StreamWindows.BAD);
        Due.is("readAll()", x.readAll(), 60);
        Due.is("full though all were read", x.arrive(0, 0), StreamWindows.FULL);
    }

    private static void changesNothingElse() {
        StreamWindows x = new StreamWindows(2, 3, 1, 0);
        x.arrive(Due.code(0, 1, 40), 5);
        Due.is("position(0)", x.position(0), 0);
        Due.is("mark()", x.mark(), -1000);
        Due.is("open(1)", x.open(1), 0);
    }
}
