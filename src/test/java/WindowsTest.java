/** The terms of kind 0 and 1: which windows there are, which an event is in, when they close. */
public final class WindowsTest {
    public static void main(String[] args) {
        everyWindow();
        startOrMore();
        lessThanEnd();
        alsoBelowZero();
        kindZeroHasNoMany();
        closesAtTheMark();
        closesOnce();
        onlyWithEvents();
        countsForThoseNotClosed();
        fromAllSources();
        lastTimeStaysOpen();
        Due.end();
    }

    /** One event alone, for each width, number and time: the windows that close are its results. */
    private static void everyWindow() {
        Due.sentence("Terms: for every whole number n the window from its start n * D to its end"
                + " n * D + S; For kind 0, S is D; for kind 1, S is D * M");
        for (int d = 1; d <= 8; d++) {
            for (int m = 0; m <= 4; m++) {
                for (int time = 0; time < 63; time++) {
                    oneEvent(m == 0 ? 0 : 1, d, m == 0 ? d : d * m, m, time);
                }
            }
        }
    }

    private static void oneEvent(int kind, int d, int s, int m, int time) {
        String name = "kind " + kind + ", D " + d + ", M " + m + ", time " + time + ": ";
        StreamWindows x = Due.following0(kind, d, m, 0);
        Due.take(x, 0, 2, time, 9);
        int all = 0;
        int closed = 0;
        for (int n = -70; n <= 70; n++) {
            if (time >= n * d && time < n * d + s) {
                all++;
            }
        }
        Due.is(name + "open(2)", x.open(2), all);
        Due.take(x, 0, 1, 63, 1);
        for (int n = -70; n <= 70; n++) {
            if (time >= n * d && time < n * d + s && n * d + s <= 63) {
                Due.result(name, x, closed, 2, n * d, n * d + s, 1, 9, 9, 9);
                closed++;
            }
        }
        Due.is(name + "results()", x.results(), closed);
        Due.is(name + "open(2)", x.open(2), all - closed);
    }

    private static void startOrMore() {
        Due.sentence("Terms: an event is in it if its time is start or more");
        int[] times = {7, 8, 9};
        int[] starts = {4, 8, 8};
        for (int n = 0; n < 3; n++) {
            StreamWindows x = Due.following0(0, 4, 1, 0);
            Due.take(x, 0, 0, times[n], 1);
            Due.take(x, 0, 0, 30, 1);
            Due.is("time " + times[n] + ": start", x.result(0, 1), starts[n]);
        }
    }

    private static void lessThanEnd() {
        Due.sentence("Terms: and less than end");
        int[] times = {10, 11, 12, 13};
        int[] ends = {12, 12, 16, 16};
        for (int n = 0; n < 4; n++) {
            StreamWindows x = Due.following0(0, 4, 1, 0);
            Due.take(x, 0, 0, times[n], 1);
            Due.take(x, 0, 0, 30, 1);
            Due.is("time " + times[n] + ": end", x.result(0, 2), ends[n]);
        }
    }

    private static void alsoBelowZero() {
        Due.sentence("Terms: for every whole number n (also below 0)");
        StreamWindows x = Due.following0(1, 8, 4, 0);
        Due.take(x, 0, 0, 0, 5);
        Due.is("open(0)", x.open(0), 4);
        Due.take(x, 0, 1, 32, 1);
        Due.is("results()", x.results(), 4);
        for (int i = 0; i < 4; i++) {
            Due.result("of time 0", x, i, 0, 8 * i - 24, 8 * i + 8, 1, 5, 5, 5);
        }
    }

    private static void kindZeroHasNoMany() {
        Due.sentence("Terms: For kind 0, S is D");
        for (int many = 0; many <= 5; many++) {
            StreamWindows x = Due.following0(0, 3, many, 0);
            Due.take(x, 0, 0, 10, 5);
            Due.is("many " + many + ": open(0)", x.open(0), 1);
            Due.is("many " + many, Due.take(x, 0, 1, 12, 1), 1);
            Due.result("many " + many, x, 0, 0, 9, 12, 1, 5, 5, 5);
        }
    }

    private static void closesAtTheMark() {
        Due.sentence("Terms: whose end is at the mark or less, close");
        for (int lateness = 0; lateness <= 20; lateness++) {
            StreamWindows x = Due.following0(0, 4, 1, lateness);
            Due.take(x, 0, 0, 5, 5);
            Due.is("one before its end", Due.take(x, 0, 1, 7 + lateness, 1), 0);
            Due.is("open(0)", x.open(0), 1);
            Due.is("at its end", Due.take(x, 0, 1, 8 + lateness, 1), lateness == 0 ? 2 : 1);
            Due.is("open(0)", x.open(0), 0);
            Due.result("lateness " + lateness, x, 0, 0, 4, 8, 1, 5, 5, 5);
        }
    }

    private static void closesOnce() {
        Due.sentence("Terms: and have not CLOSED yet");
        StreamWindows x = Due.following0(1, 4, 2, 0);
        Due.take(x, 0, 0, 5, 1);
        Due.is("the window to 8 closes", Due.take(x, 0, 0, 8, 2), 1);
        // At 7: the window to 8 is closed, the one to 12 is not.
        Due.is("nothing closes", Due.take(x, 0, 0, 7, 4), 0);
        Due.is("late()", x.late(), 0);
        Due.is("the window to 12 closes", Due.take(x, 0, 0, 12, 8), 1);
        Due.is("idle(1, true) again", x.idle(1, true), 0);
        Due.is("results()", x.results(), 2);
        Due.result("to 8", x, 0, 0, 0, 8, 1, 1, 1, 1);
        Due.result("to 12", x, 1, 0, 4, 12, 3, 7, 1, 4);
    }

    private static void onlyWithEvents() {
        Due.sentence("Terms: all windows that have events that count for them");
        StreamWindows x = Due.following0(0, 1, 1, 0);
        Due.take(x, 0, 0, 0, 1);
        Due.is("sixty windows are empty", Due.take(x, 0, 0, 61, 1), 1);
        Due.is("none has events", Due.take(x, 0, 1, 61, 1), 0);
        Due.is("two keys", Due.take(x, 0, 0, 63, 1), 2);
    }

    private static void countsForThoseNotClosed() {
        Due.sentence("Terms: The event counts for all windows that it is in and that are not closed");
        StreamWindows x = Due.following0(1, 4, 4, 0);
        Due.take(x, 0, 0, 12, 1);
        Due.take(x, 0, 1, 20, 2);
        Due.is("to 16 and to 20 are closed: results()", x.results(), 2);
        Due.take(x, 0, 0, 13, 4);
        Due.is("no new windows: open(0)", x.open(0), 2);
        Due.take(x, 0, 1, 28, 8);
        Due.is("results()", x.results(), 6);
        Due.result("to 16", x, 0, 0, 0, 16, 1, 1, 1, 1);
        Due.result("to 20", x, 1, 0, 4, 20, 1, 1, 1, 1);
        Due.result("to 24", x, 2, 0, 8, 24, 2, 5, 1, 4);
        Due.result("to 24", x, 3, 1, 8, 24, 1, 2, 2, 2);
        Due.result("to 28", x, 4, 0, 12, 28, 2, 5, 1, 4);
        Due.result("to 28", x, 5, 1, 12, 28, 1, 2, 2, 2);
    }

    private static void fromAllSources() {
        Due.sentence("What it is: Sums up events by windows of time, from three sources");
        StreamWindows x = new StreamWindows(0, 4, 1, 0);
        for (int source = 0; source < 3; source++) {
            Due.take(x, source, 1, source, source + 1);
        }
        for (int source = 0; source < 3; source++) {
            Due.is("source " + source, Due.take(x, source, 2, 4, 1), source == 2 ? 1 : 0);
        }
        Due.result("of three", x, 0, 1, 0, 4, 3, 6, 1, 3);
    }

    private static void lastTimeStaysOpen() {
        Due.sentence("Terms: TIME 0 .. 63 (no mark gets to the end of a window of 63)");
        for (int d = 1; d <= 8; d++) {
            StreamWindows x = Due.following0(0, d, 1, 0);
            Due.take(x, 0, 0, 63, 1);
            Due.is("D " + d + ": open(0)", x.open(0), 1);
            Due.is("D " + d + ": results()", x.results(), 0);
            Due.take(x, 1, 0, 63, 2);
            Due.is("D " + d + ": pending(0)", x.pending(0), 3);
        }
    }
}
