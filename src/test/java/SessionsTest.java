/** The terms of kind 2: touching, joining, start and end of sessions. */
public final class SessionsTest {
    public static void main(String[] args) {
        touchesFromBefore();
        touchesFromAfter();
        touchesFromWithin();
        touchesItsKeyAlone();
        joinsTwo();
        joinsWhatItMust();
        startAndEnd();
        joinsBeforeTheMarkRises();
        closesAtTheMark();
        closedIsOpenNoMore();
        joinedBehindTheMark();
        asManyAsCanBe();
        Due.end();
    }

    /** How many sessions are open after 20, 20 + D and one more event. */
    private static int openWith(int width, int time) {
        StreamWindows x = new StreamWindows(2, width, 4, 0);
        Due.take(x, 0, 0, 20, 1);
        Due.take(x, 0, 0, 20 + width, 1);
        Due.take(x, 0, 0, time, 1);
        return x.open(0);
    }

    private static void touchesFromBefore() {
        Due.sentence("Terms: TOUCHES one if its time is at least the least time in it minus D");
        for (int d = 1; d <= 8; d++) {
            Due.is("D " + d + ", D before: open(0)", openWith(d, 20 - d), 1);
            Due.is("D " + d + ", D + 1 before: open(0)", openWith(d, 20 - d - 1), 2);
            Due.is("D " + d + ", time 0: open(0)", openWith(d, 0), 2);
        }
    }

    private static void touchesFromAfter() {
        Due.sentence("Terms: and at most the greatest time in it plus D");
        for (int d = 1; d <= 8; d++) {
            Due.is("D " + d + ", D after: open(0)", openWith(d, 20 + d + d), 1);
            Due.is("D " + d + ", D + 1 after: open(0)", openWith(d, 20 + d + d + 1), 2);
            Due.is("D " + d + ", time 63: open(0)", openWith(d, 63), 2);
        }
    }

    private static void touchesFromWithin() {
        Due.sentence("Terms: TOUCHES one if its time is at least .. and at most .. (within it)");
        for (int d = 1; d <= 8; d++) {
            for (int time = 20; time <= 20 + d; time++) {
                Due.is("D " + d + ", time " + time + ": open(0)", openWith(d, time), 1);
            }
        }
    }

    private static void touchesItsKeyAlone() {
        Due.sentence("Terms: the open sessions of its key are sets of events");
        StreamWindows x = new StreamWindows(2, 5, 1, 0);
        for (int key = 0; key < 4; key++) {
            Due.take(x, 0, key, 20, 1 << key);
            Due.take(x, 1, key, 22, 1 << key);
        }
        for (int key = 0; key < 4; key++) {
            Due.is("open(" + key + ")", x.open(key), 1);
            Due.is("pending(" + key + ")", x.pending(key), 2 << key);
        }
    }

    private static void joinsTwo() {
        Due.sentence("Terms: If it touches some, it and all of them become one open session");
        for (int first = 0; first < 2; first++) {
            // The order in which the two came must not matter.
            StreamWindows x = Due.following0(2, 4, 1, 20);
            Due.take(x, 0, 1, first == 0 ? 10 : 18, 1);
            Due.take(x, 0, 2, 14, 2);
            Due.take(x, 0, 1, first == 0 ? 18 : 10, 4);
            Due.is("open(1)", x.open(1), 2);
            Due.take(x, 0, 1, 14, 8);
            Due.is("D from both: open(1)", x.open(1), 1);
            Due.is("pending(1)", x.pending(1), 13);
            Due.is("another key: pending(2)", x.pending(2), 2);
            Due.take(x, 0, 0, 50, 0);
            Due.is("results()", x.results(), 2);
            Due.result("key 2", x, 0, 2, 14, 18, 1, 2, 2, 2);
            Due.result("joined", x, 1, 1, 10, 22, 3, 13, 1, 8);
        }
    }

    private static void joinsWhatItMust() {
        Due.sentence("Terms: it and all of them become one open session (and no other)");
        StreamWindows x = Due.following0(2, 2, 1, 20);
        Due.take(x, 0, 1, 14, 5);
        Due.take(x, 0, 2, 14, 1);
        Due.take(x, 0, 1, 10, -50);
        Due.take(x, 0, 1, 9, 3);
        Due.take(x, 0, 1, 18, 2);
        Due.take(x, 0, 1, 15, 50);
        Due.take(x, 0, 3, 12, 1);
        Due.is("open(1)", x.open(1), 3);
        Due.take(x, 0, 1, 12, 7);
        Due.is("open(1)", x.open(1), 2);
        Due.is("open(2)", x.open(2), 1);
        Due.is("open(3)", x.open(3), 1);
        Due.take(x, 0, 0, 63, 0);
        Due.is("results()", x.results(), 4);
        Due.result("key 3", x, 0, 3, 12, 14, 1, 1, 1, 1);
        Due.result("key 2", x, 1, 2, 14, 16, 1, 1, 1, 1);
        Due.result("key 1, joined", x, 2, 1, 9, 17, 5, 15, -50, 50);
        Due.result("key 1, apart", x, 3, 1, 18, 20, 1, 2, 2, 2);
    }

    private static void startAndEnd() {
        Due.sentence("Terms: The START of a session is the least time in it, its END the greatest"
                + " time in it plus D");
        int[][] orders = {{20, 22, 25}, {25, 22, 20}, {22, 25, 20}, {22, 20, 25}};
        for (int[] order : orders) {
            StreamWindows x = Due.following0(2, 5, 1, 20);
            for (int time : order) {
                Due.take(x, 0, 0, time, time);
            }
            Due.take(x, 0, 1, 60, 0);
            Due.result("20, 22, 25 in some order", x, 0, 0, 20, 30, 3, 67, 20, 25);
        }
        StreamWindows first = Due.following0(2, 8, 1, 20);
        Due.take(first, 0, 0, 0, 1);
        Due.take(first, 0, 1, 60, 0);
        Due.result("time 0", first, 0, 0, 0, 8, 1, 1, 1, 1);
    }

    private static void joinsBeforeTheMarkRises() {
        Due.sentence("Terms: READING an event, by the mark as it was before. After that the mark is"
                + " looked at");
        StreamWindows x = Due.following0(2, 4, 1, 0);
        Due.take(x, 0, 0, 10, 1);
        Due.is("its mark is the end of the session it joins", Due.take(x, 0, 0, 14, 2), 0);
        Due.is("open(0)", x.open(0), 1);
        Due.is("pending(0)", x.pending(0), 3);
        Due.is("one more than D: it closes", Due.take(x, 0, 0, 19, 4), 1);
        Due.result("both", x, 0, 0, 10, 18, 2, 3, 1, 2);
        Due.is("open(0)", x.open(0), 1);
    }

    private static void closesAtTheMark() {
        Due.sentence("Terms: whose end is at the mark or less (kind 2: all open sessions whose end"
                + " is), close");
        for (int lateness = 0; lateness <= 20; lateness++) {
            StreamWindows x = Due.following0(2, 4, 1, lateness);
            Due.take(x, 0, 0, 10, 1);
            Due.is("one before its end", Due.take(x, 0, 1, 13 + lateness, 1), 0);
            Due.is("open(0)", x.open(0), 1);
            Due.is("at its end", Due.take(x, 0, 1, 14 + lateness, 1), 1);
            Due.is("open(0)", x.open(0), 0);
            Due.result("lateness " + lateness, x, 0, 0, 10, 14, 1, 1, 1, 1);
        }
    }

    private static void closedIsOpenNoMore() {
        Due.sentence("Terms: A session that closed is open no more");
        StreamWindows x = Due.following0(2, 4, 1, 0);
        Due.take(x, 0, 0, 10, 1);
        Due.is("it closes", Due.take(x, 0, 1, 14, 1), 1);
        Due.take(x, 0, 0, 10, 16);
        Due.is("late, for it touches none: late()", x.late(), 1);
        Due.take(x, 0, 0, 12, 2);
        Due.is("would have touched the closed one: open(0)", x.open(0), 1);
        Due.is("pending(0)", x.pending(0), 2);
        Due.take(x, 0, 3, 30, 1);
        Due.result("first", x, 0, 0, 10, 14, 1, 1, 1, 1);
        Due.result("second", x, 1, 0, 12, 16, 1, 2, 2, 2);
        Due.result("third", x, 2, 1, 14, 18, 1, 1, 1, 1);
        Due.is("results()", x.results(), 3);
    }

    private static void joinedBehindTheMark() {
        Due.sentence("Terms: If it touches some (also behind the mark)");
        // Source 1 is behind a mark that goes on while its own events come in.
        StreamWindows x = new StreamWindows(2, 2, 1, 0);
        x.idle(2, true);
        Due.take(x, 0, 0, 40, 1);
        Due.take(x, 1, 0, 10, 2);
        Due.is("the reading of 30 closes 10", Due.take(x, 1, 0, 30, 3), 1);
        Due.is("an event does not close itself", x.open(0), 2);
        Due.take(x, 1, 0, 28, 5);
        Due.is("joined though its own end is at the mark", x.pending(0), 8);
        Due.is("late()", x.late(), 0);
        Due.is("32 closes the joined one", Due.take(x, 1, 0, 33, 1), 1);
        Due.result("joined", x, 1, 0, 28, 32, 2, 8, 3, 5);
    }

    private static void asManyAsCanBe() {
        Due.sentence("Promise 11: (kind 2: open sessions) (as many as can be)");
        StreamWindows x = new StreamWindows(2, 1, 1, 0);
        for (int n = 0; n < 60; n++) {
            x.arrive(Due.code(n / 20, n % 4, n / 4 * 4), n - 30);
        }
        x.idle(0, true);
        x.idle(1, true);
        x.idle(2, true);
        Due.is("readAll()", x.readAll(), 60);
        for (int key = 0; key < 4; key++) {
            Due.is("open(" + key + ")", x.open(key), 15);
        }
        Due.is("all but those of the last time close", x.idle(2, false), 56);
        Due.result("first", x, 0, 0, 0, 1, 1, -30, -30, -30);
        Due.result("last", x, 55, 3, 52, 53, 1, 25, 25, 25);
    }
}
