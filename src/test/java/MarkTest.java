/** Promise 7: mark. */
public final class MarkTest {
    public static void main(String[] args) {
        StreamWindows x = new StreamWindows(0, 8, 1, 5);
        Due.is("mark() at first", x.mark(), -1000);
        Due.take(x, 0, 0, 20, 1);
        Due.take(x, 1, 0, 3, 1);
        Due.is("mark() while source 2 read nothing", x.mark(), -1000);
        Due.take(x, 2, 0, 30, 1);
        Due.is("mark() may be below 0", x.mark(), -2);
        Due.take(x, 1, 0, 12, 1);
        Due.is("mark() is the least", x.mark(), 7);
        Due.take(x, 1, 0, 1, 1);
        Due.is("mark() by the greatest time, not the latest", x.mark(), 7);
        Due.is("late()", x.late(), 0);
        Due.take(x, 1, 0, 40, 1);
        Due.is("mark() by source 0", x.mark(), 15);
        Due.take(x, 0, 0, 63, 1);
        Due.is("mark() by source 2", x.mark(), 25);

        StreamWindows z = new StreamWindows(2, 1, 1, 20);
        z.idle(1, true);
        z.idle(2, true);
        Due.take(z, 0, 0, 0, 1);
        Due.is("least mark that can be read", z.mark(), -20);

        // The mark is the greatest it has been, though a source that is slower comes back.
        StreamWindows late = Due.following0(0, 1, 1, 0);
        Due.take(late, 0, 0, 30, 1);
        Due.take(late, 1, 0, 20, 1);
        Due.is("late(): source 1", late.late(), 1);
        late.idle(1, false);
        Due.is("mark() stays above the slower source", late.mark(), 30);
        Due.take(late, 1, 0, 29, 1);
        Due.is("late(): source 1 again", late.late(), 2);
        Due.take(late, 0, 0, 40, 1);
        Due.is("mark() is held by source 1", late.mark(), 30);
        Due.take(late, 1, 0, 35, 1);
        Due.is("mark() follows source 1 again", late.mark(), 35);
        Due.end();
    }
}
