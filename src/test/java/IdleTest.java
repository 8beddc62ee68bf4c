/** Promise 5: idle. */
public final class IdleTest {
    public static void main(String[] args) {
        StreamWindows x = new StreamWindows(0, 4, 1, 0);
        for (int source : new int[] {-1, 3, Integer.MIN_VALUE, Integer.MAX_VALUE}) {
            Due.is("idle(" + source + ", true)", x.idle(source, true), StreamWindows.BAD);
            Due.is("idle(" + source + ", false)", x.idle(source, false), StreamWindows.BAD);
        }
        Due.take(x, 0, 0, 3, 1);
        Due.take(x, 0, 1, 9, 2);
        Due.take(x, 1, 2, 4, 3);
        Due.is("mark() while source 2 read nothing", x.mark(), -1000);
        Due.is("idle(2, true)", x.idle(2, true), 1);
        Due.is("mark() is that of source 1", x.mark(), 4);
        Due.is("idle(2, true) again", x.idle(2, true), 0);
        Due.is("idle(1, true)", x.idle(1, true), 1);
        Due.is("mark() is that of source 0", x.mark(), 9);
        Due.is("idle(0, true): all are idle", x.idle(0, true), 0);
        Due.is("mark() stays", x.mark(), 9);
        Due.is("read by an idle source", Due.take(x, 0, 3, 40, 4), 0);
        Due.is("mark() stays while all are idle", x.mark(), 9);
        Due.is("idle(1, false)", x.idle(1, false), 0);
        Due.is("mark() never goes down", x.mark(), 9);
        Due.is("idle(0, false)", x.idle(0, false), 0);
        Due.is("mark() is held by source 1", x.mark(), 9);
        Due.is("idle(1, true)", x.idle(1, true), 1);
        Due.is("mark()", x.mark(), 40);
        Due.is("results()", x.results(), 3);

        // A source that is idle no more can raise the mark if all were idle.
        StreamWindows y = new StreamWindows(2, 3, 1, 2);
        y.idle(0, true);
        y.idle(1, true);
        y.idle(2, true);
        Due.take(y, 1, 0, 10, 1);
        Due.take(y, 1, 0, 15, 2);
        Due.is("sessions, mark() while all are idle", y.mark(), -1000);
        Due.is("sessions, idle(1, false)", y.idle(1, false), 1);
        Due.is("sessions, mark()", y.mark(), 13);
        Due.is("sessions, open(0)", y.open(0), 1);
        Due.end();
    }
}
