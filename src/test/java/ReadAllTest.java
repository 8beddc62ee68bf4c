/** Promise 4: readAll. */
public final class ReadAllTest {
    public static void main(String[] args) {
        mostFirst();
        leastNumberOfSeveral();
        onlyWhatWasNotRead();
        Due.end();
    }

    /** Source 2 has most: its event at 50 is read first, and makes the one of source 0 late. */
    private static void mostFirst() {
        StreamWindows x = new StreamWindows(0, 1, 1, 0);
        x.idle(0, true);
        x.idle(1, true);
        x.arrive(Due.code(0, 0, 10), 1);
        x.arrive(Due.code(2, 0, 50), 2);
        x.arrive(Due.code(2, 0, 51), 3);
        Due.is("readAll()", x.readAll(), 3);
        Due.is("late()", x.late(), 1);
        Due.is("readAll() again", x.readAll(), 0);

        // Source 2 goes down from three to two and is then level with source 1, whose turn it is.
        StreamWindows y = new StreamWindows(0, 1, 1, 0);
        y.idle(0, true);
        y.idle(1, true);
        y.arrive(Due.code(1, 0, 10), 1);
        y.arrive(Due.code(1, 0, 10), 1);
        y.arrive(Due.code(2, 0, 5), 2);
        y.arrive(Due.code(2, 0, 20), 2);
        y.arrive(Due.code(2, 0, 30), 3);
        Due.is("readAll()", y.readAll(), 5);
        Due.is("late(): the second of source 1", y.late(), 1);
        Due.result("taking turns", y, 1, 0, 10, 11, 1, 1, 1, 1);
    }

    private static void leastNumberOfSeveral() {
        StreamWindows x = new StreamWindows(0, 1, 1, 0);
        x.idle(0, true);
        x.idle(2, true);
        x.arrive(Due.code(0, 0, 10), 1);
        x.arrive(Due.code(1, 0, 50), 2);
        x.arrive(Due.code(2, 0, 10), 4);
        Due.is("readAll()", x.readAll(), 3);
        Due.is("late(): source 2 alone", x.late(), 1);
        Due.result("source 0 came first", x, 0, 0, 10, 11, 1, 1, 1, 1);
    }

    private static void onlyWhatWasNotRead() {
        // Source 0 has more events, but source 1 has more that were not read.
        StreamWindows x = new StreamWindows(0, 1, 1, 0);
        x.idle(0, true);
        x.idle(2, true);
        for (int n = 0; n < 4; n++) {
            x.arrive(Due.code(0, 0, 10), 1);
        }
        x.read(0);
        x.read(0);
        x.read(0);
        x.arrive(Due.code(1, 0, 50), 2);
        x.arrive(Due.code(1, 0, 51), 3);
        Due.is("readAll()", x.readAll(), 3);
        Due.is("late()", x.late(), 1);
        Due.is("position(0)", x.position(0), 4);
        Due.is("position(1)", x.position(1), 2);
        Due.is("position(2)", x.position(2), 0);

        StreamWindows all = new StreamWindows(2, 8, 4, 20);
        for (int n = 0; n < 60; n++) {
            all.arrive(Due.code(n % 3, n % 4, n), 1);
        }
        Due.is("readAll() of sixty", all.readAll(), 60);
    }
}
