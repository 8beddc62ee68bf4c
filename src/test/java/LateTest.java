/** Promise 10: late, and when the terms call an event so. */
public final class LateTest {
    public static void main(String[] args) {
        noneAtFirst();
        endAtTheMark();
        someWindowsClosed();
        countsForNothing();
        neverByItsOwnReading();
        sessionAtTheMark();
        touchesThoughBehind();
        touchesNoneOfItsKey();
        asManyAsCanBe();
        refusedIsNotLate();
        Due.end();
    }

    private static void noneAtFirst() {
        Due.sentence("Promise 10: How many events were late (none)");
        for (int kind = 0; kind <= 2; kind++) {
            StreamWindows x = new StreamWindows(kind, 4, 2, 0);
            Due.is("late()", x.late(), 0);
            for (int time = 20; time > 0; time--) {
                Due.take(x, 0, 0, time, 1);
            }
            Due.is("the mark is -1000 still: late()", x.late(), 0);
        }
    }

    /** The mark is put at each time in turn; an event of each time is then late or not. */
    private static void endAtTheMark() {
        Due.sentence("Terms: a window is CLOSED if its end is at the mark or less");
        for (int width = 1; width <= 8; width++) {
            for (int mark = 16; mark < 32; mark++) {
                for (int time = 0; time <= 32; time++) {
                    StreamWindows x = Due.following0(0, width, 4, 0);
                    Due.take(x, 0, 0, mark, 1);
                    Due.take(x, 0, 1, time, 1);
                    boolean late = time / width * width + width <= mark;
                    String name = "width " + width + ", mark " + mark + ", time " + time;
                    Due.is(name + ": late()", x.late(), late ? 1 : 0);
                    Due.is(name + ": open(1)", x.open(1), late ? 0 : 1);
                }
            }
        }
    }

    private static void someWindowsClosed() {
        Due.sentence("Terms: The event counts for all windows that it is in and that are not closed;"
                + " if there is none, it is LATE");
        // Windows from 0, 4, 8 and 12, each 16 long: an event at 12 is in all of them.
        int[] marks = {15, 16, 19, 20, 23, 24, 27, 28, 29};
        int[] open = {4, 3, 3, 2, 2, 1, 1, 0, 0};
        for (int n = 0; n < marks.length; n++) {
            StreamWindows x = Due.following0(1, 4, 4, 0);
            Due.take(x, 0, 0, marks[n], 1);
            Due.take(x, 0, 1, 12, 2);
            Due.is("mark " + marks[n] + ": open(1)", x.open(1), open[n]);
            Due.is("mark " + marks[n] + ": late()", x.late(), open[n] == 0 ? 1 : 0);
        }
    }

    private static void countsForNothing() {
        Due.sentence("Terms: it is LATE, and counts for nothing");
        StreamWindows x = Due.following0(0, 4, 1, 2);
        Due.take(x, 0, 0, 13, 1);
        Due.take(x, 0, 0, 8, 2);
        Due.is("its window ends at 12, the mark is 11: late()", x.late(), 0);
        Due.take(x, 0, 0, 7, 4);
        Due.is("its window ended at 8: late()", x.late(), 1);
        Due.take(x, 0, 0, 14, 8);
        Due.is("mark()", x.mark(), 12);
        Due.is("no result by a late one", Due.take(x, 0, 0, 11, 16), 0);
        Due.is("end at the mark: late()", x.late(), 2);
        Due.take(x, 0, 0, 12, 32);
        Due.is("time at the mark: late()", x.late(), 2);
        Due.is("results()", x.results(), 1);
        Due.result("without the late one", x, 0, 0, 8, 12, 1, 2, 2, 2);
        Due.is("pending(0)", x.pending(0), 41);
        Due.is("open(0)", x.open(0), 1);
    }

    private static void neverByItsOwnReading() {
        Due.sentence("Terms: READING an event, by the mark as it was before");
        for (int kind = 0; kind <= 2; kind++) {
            // Source 1 is far ahead; the reading of source 0 takes the mark from -1000 to 9.
            StreamWindows x = new StreamWindows(kind, 1, 1, 0);
            x.idle(2, true);
            Due.take(x, 1, 0, 60, 1);
            Due.take(x, 0, 1, 9, 2);
            Due.is("kind " + kind + ": mark()", x.mark(), 9);
            Due.is("kind " + kind + ": late()", x.late(), 0);
            Due.is("kind " + kind + ": pending(1)", x.pending(1), 2);
        }
    }

    private static void sessionAtTheMark() {
        Due.sentence("Terms: it is late if its time plus D is at the mark or less; else it becomes an"
                + " open session of its own");
        for (int width = 1; width <= 8; width++) {
            for (int time = 0; time <= 31; time++) {
                StreamWindows x = Due.following0(2, width, 1, 0);
                Due.take(x, 0, 0, 30, 1);
                Due.take(x, 0, 1, time, 1);
                boolean late = time + width <= 30;
                String name = "width " + width + ", mark 30, time " + time;
                Due.is(name + ": late()", x.late(), late ? 1 : 0);
                Due.is(name + ": open(1)", x.open(1), late ? 0 : 1);
            }
        }
    }

    private static void touchesThoughBehind() {
        Due.sentence("Terms: If it touches none: it is late if (not if it touches one)");
        StreamWindows x = Due.following0(2, 4, 1, 0);
        Due.take(x, 0, 0, 20, 1);
        Due.take(x, 0, 0, 16, 4);
        Due.is("plus D at the mark, but touches: late()", x.late(), 0);
        Due.take(x, 0, 0, 11, 8);
        Due.is("does not touch: late()", x.late(), 1);
        Due.take(x, 0, 0, 12, 16);
        Due.is("far behind the mark, but touches: late()", x.late(), 1);
        Due.take(x, 0, 0, 8, 32);
        Due.is("touches by the one before: late()", x.late(), 1);
        Due.is("pending(0)", x.pending(0), 53);
        Due.is("open(0)", x.open(0), 1);
    }

    private static void touchesNoneOfItsKey() {
        Due.sentence("Terms: the open sessions of its key");
        StreamWindows x = Due.following0(2, 4, 1, 0);
        Due.take(x, 0, 1, 20, 1);
        Due.take(x, 0, 0, 16, 2);
        Due.take(x, 0, 2, 16, 4);
        Due.is("they touch one of another key: late()", x.late(), 2);
        Due.is("pending(1)", x.pending(1), 1);
    }

    private static void asManyAsCanBe() {
        Due.sentence("Promise 10: How many events were late (fifty-nine)");
        for (int kind = 0; kind <= 2; kind++) {
            StreamWindows x = Due.following0(kind, 8, 1, 0);
            Due.take(x, 0, 0, 63, 1);
            for (int n = 1; n < 60; n++) {
                x.arrive(Due.code(n % 3, n % 4, n / 2), 1);
            }
            x.readAll();
            Due.is("kind " + kind + ": late()", x.late(), 59);
            Due.is("kind " + kind + ": results()", x.results(), 0);
        }
    }

    private static void refusedIsNotLate() {
        Due.sentence("Promise 10: How many events were late (not: calls were refused)");
        StreamWindows x = Due.following0(0, 4, 1, 0);
        Due.take(x, 0, 0, 40, 1);
        x.read(0);
        x.read(3);
        x.arrive(768, 0);
        x.arrive(Due.code(1, 0, 3), 51);
        x.arrive(Due.code(1, 0, 3), 50);
        Due.is("not read yet: late()", x.late(), 0);
        x.read(1);
        Due.is("late()", x.late(), 1);
    }
}
