/** Promise 3: read. */
public final class ReadTest {
    public static void main(String[] args) {
        sourceNotGood();
        badBeforeNone();
        noEventsYet();
        allWereRead();
        allTwentyWereRead();
        oneAfterTheOther();
        howManyResults();
        anIdleSource();
        Due.end();
    }

    private static void sourceNotGood() {
        Due.sentence("Promise 3: source is not good: BAD");
        StreamWindows x = new StreamWindows(0, 5, 1, 0);
        for (int source = 0; source < 3; source++) {
            x.arrive(Due.code(source, 0, 5), 1);
        }
        for (int source : new int[] {Integer.MIN_VALUE, -2, -1, 3, 4, Integer.MAX_VALUE}) {
            Due.is("read(" + source + ")", x.read(source), StreamWindows.BAD);
        }
        Due.is("readAll()", x.readAll(), 3);
    }

    private static void badBeforeNone() {
        Due.sentence("Terms: In every method the tests are made in the order named (BAD, NONE)");
        StreamWindows x = new StreamWindows(0, 5, 1, 0);
        Due.is("no events at all: read(-1)", x.read(-1), StreamWindows.BAD);
        Due.is("no events at all: read(3)", x.read(3), StreamWindows.BAD);
    }

    private static void noEventsYet() {
        Due.sentence("Promise 3: all its events were read: NONE (it has none)");
        for (int source = 0; source < 3; source++) {
            StreamWindows x = new StreamWindows(0, 5, 1, 0);
            Due.is("read(" + source + ")", x.read(source), StreamWindows.NONE);
            x.arrive(Due.code((source + 1) % 3, 0, 5), 1);
            Due.is("another source has one", x.read(source), StreamWindows.NONE);
            Due.is("position(" + source + ")", x.position(source), 0);
        }
    }

    private static void allWereRead() {
        Due.sentence("Promise 3: all its events were read: NONE");
        for (int source = 0; source < 3; source++) {
            StreamWindows x = new StreamWindows(0, 5, 1, 0);
            Due.take(x, source, 0, 5, 1);
            Due.is("read(" + source + ")", x.read(source), StreamWindows.NONE);
            Due.is("position(" + source + ")", x.position(source), 1);
            Due.is("one more came", Due.take(x, source, 0, 6, 2), 0);
            Due.is("pending(0)", x.pending(0), 3);
            Due.is("read(" + source + ")", x.read(source), StreamWindows.NONE);
            x.crash();
            Due.is("not read any more: read(" + source + ")", x.read(source), 0);
        }
    }

    private static void allTwentyWereRead() {
        Due.sentence("Promise 3: all its events were read: NONE (twenty)");
        for (int source = 0; source < 3; source++) {
            StreamWindows x = new StreamWindows(0, 5, 1, 0);
            x.arrive(Due.code((source + 1) % 3, 0, 5), 1);
            for (int n = 0; n < 20; n++) {
                Due.is("take " + n, Due.take(x, source, 1, n, 1), 0);
            }
            Due.is("read(" + source + ")", x.read(source), StreamWindows.NONE);
            Due.is("position(" + source + ")", x.position(source), 20);
            Due.is("open(0): no event of another source", x.open(0), 0);
        }
    }

    private static void oneAfterTheOther() {
        Due.sentence("Promise 3: Reads the next event of a source");
        StreamWindows x = new StreamWindows(0, 8, 1, 0);
        x.arrive(Due.code(1, 0, 7), 1);
        x.arrive(Due.code(1, 0, 3), 2);
        x.arrive(Due.code(0, 0, 1), 16);
        x.arrive(Due.code(1, 0, 5), 4);
        int[] sums = {1, 3, 7};
        for (int n = 0; n < 3; n++) {
            Due.is("read(1)", x.read(1), 0);
            Due.is("pending(0)", x.pending(0), sums[n]);
            Due.is("position(1)", x.position(1), n + 1);
            Due.is("position(0)", x.position(0), 0);
        }
        Due.is("read(0)", x.read(0), 0);
        Due.is("pending(0)", x.pending(0), 23);
    }

    private static void howManyResults() {
        Due.sentence("Promise 3: Else answers how many results there were by that");
        StreamWindows x = Due.following0(0, 5, 1, 0);
        Due.is("first", Due.take(x, 0, 0, 1, 10), 0);
        Due.is("second", Due.take(x, 0, 3, 2, 20), 0);
        Due.is("third", Due.take(x, 0, 1, 4, 30), 0);
        Due.is("three keys of a window close", Due.take(x, 0, 0, 5, 40), 3);
        Due.is("one more, not all that there are", Due.take(x, 0, 2, 10, 1), 1);
        Due.is("results()", x.results(), 4);
        Due.is("a late event", Due.take(x, 0, 2, 3, 1), 0);
        Due.is("late()", x.late(), 1);
    }

    private static void anIdleSource() {
        Due.sentence("Terms: A source may be IDLE (and is read all the same)");
        StreamWindows x = Due.following0(0, 5, 1, 0);
        Due.is("read(1)", Due.take(x, 1, 0, 7, 50), 0);
        Due.is("pending(0)", x.pending(0), 50);
        Due.is("mark()", x.mark(), -1000);
        Due.is("read(1)", x.read(1), StreamWindows.NONE);
    }
}
