/** The terms of kind 2: touching, joining, start and end of sessions. */
public final class SessionsTest {
    public static void main(String[] args) {
        touchingEdges();
        joining();
        closedIsOpenNoMore();
        closesAtOnce();
        Due.end();
    }

    private static void touchingEdges() {
        int[] times = {14, 15, 20, 22, 25, 30, 31};
        int[] open = {2, 1, 1, 1, 1, 1, 2};
        for (int n = 0; n < times.length; n++) {
            StreamWindows x = new StreamWindows(2, 5, 1, 0);
            Due.take(x, 0, 0, 20, 1);
            Due.take(x, 0, 0, 25, 1);
            Due.take(x, 0, 0, times[n], 1);
            Due.is("session 20 .. 25 and " + times[n] + ": open(0)", x.open(0), open[n]);
        }
    }

    private static void joining() {
        StreamWindows x = Due.following0(2, 2, 1, 20);
        Due.take(x, 0, 1, 14, 5);
        Due.take(x, 0, 2, 14, 1);
        Due.take(x, 0, 1, 10, -50);
        Due.take(x, 0, 1, 9, 3);
        Due.take(x, 0, 1, 18, 2);
        Due.take(x, 0, 1, 15, 50);
        Due.take(x, 0, 3, 12, 1);
        Due.is("open(1)", x.open(1), 3);
        Due.take(x, 0, 1, 12, 7);
        Due.is("open(1)", x.open(1), 2);
        Due.is("open(2)", x.open(2), 1);
        Due.is("open(3)", x.open(3), 1);
        Due.take(x, 0, 0, 63, 0);
        Due.is("results()", x.results(), 4);
        Due.result("key 3", x, 0, 3, 12, 14, 1, 1, 1, 1);
        Due.result("key 2", x, 1, 2, 14, 16, 1, 1, 1, 1);
        Due.result("key 1, joined", x, 2, 1, 9, 17, 5, 15, -50, 50);
        Due.result("key 1, apart", x, 3, 1, 18, 20, 1, 2, 2, 2);
    }

    private static void closedIsOpenNoMore() {
        StreamWindows x = Due.following0(2, 4, 1, 0);
        Due.take(x, 0, 0, 10, 1);
        Due.is("end above the mark", Due.take(x, 0, 1, 13, 1), 0);
        Due.is("end at the mark", Due.take(x, 0, 1, 14, 1), 1);
        Due.take(x, 0, 0, 12, 2);
        Due.is("would have touched the closed one: open(0)", x.open(0), 1);
        Due.is("pending(0)", x.pending(0), 2);
        Due.take(x, 0, 3, 30, 1);
        Due.result("first", x, 0, 0, 10, 14, 1, 1, 1, 1);
        Due.result("second", x, 1, 0, 12, 16, 1, 2, 2, 2);
        Due.result("third", x, 2, 1, 13, 18, 2, 2, 1, 1);
        Due.is("results()", x.results(), 3);
    }

    private static void closesAtOnce() {
        // Source 1 is behind a mark that goes on while its own events come in.
        StreamWindows x = new StreamWindows(2, 2, 1, 0);
        x.idle(2, true);
        Due.take(x, 0, 0, 40, 1);
        Due.take(x, 1, 0, 10, 2);
        Due.is("the reading of 30 closes 10", Due.take(x, 1, 0, 30, 3), 1);
        Due.is("an event does not close itself", x.open(0), 2);
        Due.take(x, 1, 0, 29, 5);
        Due.is("joined though it is before the mark", x.pending(0), 8);
        Due.is("32 closes the joined one", Due.take(x, 1, 0, 33, 1), 1);
        Due.result("joined", x, 1, 0, 29, 32, 2, 8, 3, 5);
    }
}
