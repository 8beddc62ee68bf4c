/** Promise 5: idle. */
public final class IdleTest {
    public static void main(String[] args) {
        sourceNotGood();
        noneAtFirst();
        becomesIdle();
        becomesIdleNoMore();
        whatItIsAlready();
        allAreIdle();
        howManyResults();
        sessionsClose();
        Due.end();
    }

    private static void sourceNotGood() {
        Due.sentence("Promise 5: source is not good: BAD");
        StreamWindows x = new StreamWindows(0, 4, 1, 0);
        for (int source : new int[] {Integer.MIN_VALUE, -2, -1, 3, 4, Integer.MAX_VALUE}) {
            Due.is("idle(" + source + ", true)", x.idle(source, true), StreamWindows.BAD);
            Due.is("idle(" + source + ", false)", x.idle(source, false), StreamWindows.BAD);
        }
        for (int source = 0; source < 3; source++) {
            Due.is("idle(" + source + ", true)", x.idle(source, true), 0);
            Due.is("idle(" + source + ", false)", x.idle(source, false), 0);
        }
    }

    private static void noneAtFirst() {
        Due.sentence("Terms: A source may be IDLE; none is at first");
        for (int source = 0; source < 3; source++) {
            StreamWindows x = new StreamWindows(0, 4, 1, 0);
            Due.take(x, (source + 1) % 3, 0, 30, 1);
            Due.take(x, (source + 2) % 3, 0, 30, 1);
            Due.is("source " + source + " holds it: mark()", x.mark(), -1000);
            Due.take(x, source, 0, 20, 1);
            Due.is("mark()", x.mark(), 20);
        }
    }

    private static void becomesIdle() {
        Due.sentence("Promise 5: Makes a source idle (flag true)");
        for (int source = 0; source < 3; source++) {
            StreamWindows x = new StreamWindows(0, 4, 1, 0);
            Due.take(x, source, 0, 10, 1);
            Due.take(x, (source + 1) % 3, 0, 30, 1);
            Due.take(x, (source + 2) % 3, 0, 20, 1);
            Due.is("mark()", x.mark(), 10);
            Due.is("idle(" + source + ", true)", x.idle(source, true), 1);
            Due.is("mark()", x.mark(), 20);
        }
    }

    private static void becomesIdleNoMore() {
        Due.sentence("Promise 5: or not");
        for (int source = 0; source < 3; source++) {
            StreamWindows x = Due.following(source, 0, 4, 1, 0);
            int other = (source + 1) % 3;
            Due.take(x, source, 0, 10, 1);
            Due.is("idle(" + other + ", false)", x.idle(other, false), 0);
            Due.is("mark() does not go down", x.mark(), 10);
            Due.take(x, source, 0, 30, 1);
            Due.is("mark() waits for it", x.mark(), 10);
            Due.take(x, other, 0, 20, 1);
            Due.is("mark()", x.mark(), 20);
        }
    }

    private static void whatItIsAlready() {
        Due.sentence("Promise 5: Makes a source idle (flag true) or not (which it is already)");
        StreamWindows x = new StreamWindows(0, 4, 1, 0);
        Due.take(x, 0, 0, 10, 1);
        Due.take(x, 1, 0, 30, 1);
        Due.is("idle(2, false)", x.idle(2, false), 0);
        Due.is("mark()", x.mark(), -1000);
        Due.is("idle(2, true)", x.idle(2, true), 0);
        Due.is("mark()", x.mark(), 10);
        Due.is("idle(2, true) again", x.idle(2, true), 0);
        Due.is("mark()", x.mark(), 10);
        Due.is("idle(2, false)", x.idle(2, false), 0);
        Due.is("idle(2, true): twice true was no more than once", x.idle(2, true), 0);
        Due.is("idle(0, true)", x.idle(0, true), 1);
        Due.is("mark()", x.mark(), 30);
    }

    private static void allAreIdle() {
        Due.sentence("Terms: if all are idle, it stays as it is");
        StreamWindows x = Due.following0(0, 4, 1, 0);
        Due.take(x, 0, 0, 9, 1);
        Due.is("idle(0, true)", x.idle(0, true), 0);
        Due.is("mark()", x.mark(), 9);
        Due.is("a reading", Due.take(x, 0, 3, 40, 4), 0);
        Due.is("mark() after a reading", x.mark(), 9);
        Due.is("idle(0, true) again", x.idle(0, true), 0);
        Due.is("mark()", x.mark(), 9);

        StreamWindows none = new StreamWindows(0, 4, 1, 0);
        none.idle(0, true);
        none.idle(1, true);
        Due.is("the last one, nothing read", none.idle(2, true), 0);
        Due.is("mark()", none.mark(), -1000);
        Due.take(none, 0, 0, 9, 1);
        Due.is("mark() after a reading", none.mark(), -1000);
    }

    private static void howManyResults() {
        Due.sentence("Promise 5: Else the mark is looked at, and the answer is how many results"
                + " there were by that");
        StreamWindows x = new StreamWindows(0, 4, 1, 0);
        Due.take(x, 0, 0, 3, 1);
        Due.take(x, 0, 1, 2, 2);
        Due.take(x, 0, 2, 9, 3);
        Due.take(x, 1, 3, 4, 4);
        Due.is("idle(2, true): two keys of a window", x.idle(2, true), 2);
        Due.is("mark()", x.mark(), 4);
        Due.is("idle(1, true): one more, not all", x.idle(1, true), 1);
        Due.is("mark()", x.mark(), 9);
        Due.is("idle(1, false): none", x.idle(1, false), 0);
        Due.is("results()", x.results(), 3);

        // Only where all were idle can one that becomes idle no more raise the mark.
        x.idle(0, true);
        x.idle(1, true);
        Due.take(x, 1, 3, 40, 8);
        Due.is("idle(1, false)", x.idle(1, false), 1);
        Due.is("mark()", x.mark(), 40);
        Due.result("the last", x, 3, 2, 8, 12, 1, 3, 3, 3);
    }

    private static void sessionsClose() {
        Due.sentence("Terms: (kind 2: all open sessions whose end is), close");
        StreamWindows x = new StreamWindows(2, 3, 1, 2);
        x.idle(0, true);
        x.idle(1, true);
        x.idle(2, true);
        Due.take(x, 1, 0, 10, 1);
        Due.take(x, 1, 0, 15, 2);
        Due.is("open(0)", x.open(0), 2);
        Due.is("idle(1, false)", x.idle(1, false), 1);
        Due.is("mark()", x.mark(), 13);
        Due.is("open(0)", x.open(0), 1);
        Due.result("the first", x, 0, 0, 10, 13, 1, 1, 1, 1);
    }
}
