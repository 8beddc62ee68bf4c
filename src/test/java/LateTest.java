/** Promise 10: late. */
public final class LateTest {
    public static void main(String[] args) {
        windows();
        slidingWindows();
        sessions();
        Due.end();
    }

    private static void windows() {
        StreamWindows x = Due.following0(0, 4, 1, 2);
        Due.take(x, 0, 0, 13, 1);
        Due.is("mark()", x.mark(), 11);
        Due.take(x, 0, 0, 8, 2);
        Due.is("its window ends at 12: late()", x.late(), 0);
        Due.take(x, 0, 0, 7, 4);
        Due.is("its window ended at 8: late()", x.late(), 1);
        Due.take(x, 0, 0, 14, 8);
        Due.is("mark()", x.mark(), 12);
        Due.take(x, 0, 0, 11, 16);
        Due.is("end at the mark: late()", x.late(), 2);
        Due.take(x, 0, 0, 12, 32);
        Due.is("time at the mark: late()", x.late(), 2);
        Due.result("late ones count for nothing", x, 0, 0, 8, 12, 1, 2, 2, 2);
        Due.is("pending(0)", x.pending(0), 41);

        // The mark as it was before the reading counts, not the one that the event itself makes.
        StreamWindows y = Due.following0(0, 1, 1, 0);
        y.arrive(Due.code(0, 0, 5), 1);
        y.idle(0, true);
        y.read(0);
        y.arrive(Due.code(0, 1, 3), 1);
        y.read(0);
        Due.is("mark() still -1000: late()", y.late(), 0);
        Due.is("idle(0, false) closes both but the event at 5", y.idle(0, false), 1);
    }

    private static void slidingWindows() {
        StreamWindows x = Due.following0(1, 4, 2, 0);
        Due.take(x, 0, 0, 12, 1);
        Due.is("mark()", x.mark(), 12);
        Due.take(x, 0, 1, 8, 2);
        Due.is("one of two windows is open: late()", x.late(), 0);
        Due.is("open(1)", x.open(1), 1);
        Due.take(x, 0, 1, 7, 2);
        Due.is("both are closed: late()", x.late(), 1);
        Due.is("open(1)", x.open(1), 1);
    }

    private static void sessions() {
        StreamWindows x = Due.following0(2, 4, 1, 0);
        Due.take(x, 0, 0, 20, 1);
        Due.take(x, 0, 1, 17, 2);
        Due.is("time plus D above the mark: late()", x.late(), 0);
        Due.take(x, 0, 2, 16, 2);
        Due.is("time plus D at the mark: late()", x.late(), 1);
        Due.is("open(2)", x.open(2), 0);
        Due.take(x, 0, 0, 16, 4);
        Due.is("touches, so it is not late: late()", x.late(), 1);
        Due.is("pending(0)", x.pending(0), 5);
        Due.take(x, 0, 0, 11, 8);
        Due.is("touches no more: late()", x.late(), 2);
        Due.take(x, 0, 0, 12, 8);
        Due.is("touches from before: late()", x.late(), 2);
        Due.is("pending(0)", x.pending(0), 13);
        Due.take(x, 0, 3, 14, 8);
        Due.is("touches a session of another key: late()", x.late(), 3);
    }
}
