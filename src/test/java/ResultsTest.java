/** Promises 8 and 9: results and result, and the order of results. */
public final class ResultsTest {
    public static void main(String[] args) {
        howMany();
        whatAResultHas();
        valuesOfOneSign();
        valuesAtTheEdges();
        noResultI();
        whatNotThere();
        bothNotThere();
        goneByACrash();
        eachKeyOfAWindow();
        orderOfEnds();
        orderOfKeys();
        orderOfSessions();
        orderOfStarts();
        atTheEndOfTheRow();
        Due.end();
    }

    private static void howMany() {
        Due.sentence("Promise 8: How many results there are");
        StreamWindows x = Due.following0(0, 1, 1, 0);
        Due.is("results()", x.results(), 0);
        for (int n = 0; n < 20; n++) {
            Due.take(x, 0, 0, n, 1);
            Due.is("results()", x.results(), n);
        }
    }

    private static void whatAResultHas() {
        Due.sentence("Promise 9: what 0 its key, 1 start, 2 end, 3 how many events, 4 the sum of"
                + " their values, 5 the least, 6 the greatest value");
        StreamWindows x = Due.following0(0, 6, 1, 0);
        Due.take(x, 0, 2, 7, -3);
        Due.take(x, 0, 2, 11, 40);
        Due.take(x, 0, 2, 6, -20);
        Due.take(x, 0, 2, 8, 12);
        Due.take(x, 0, 0, 12, 1);
        Due.result("four events", x, 0, 2, 6, 12, 4, 29, -20, 40);
        Due.take(x, 0, 0, 20, 1);
        Due.result("one event", x, 1, 0, 12, 18, 1, 1, 1, 1);
        Due.result("the first stays as it was", x, 0, 2, 6, 12, 4, 29, -20, 40);
    }

    private static void valuesOfOneSign() {
        Due.sentence("Promise 9: 5 the least, 6 the greatest value (all below 0, all above)");
        StreamWindows x = Due.following0(0, 8, 1, 0);
        Due.take(x, 0, 0, 0, -7);
        Due.take(x, 0, 0, 1, -5);
        Due.take(x, 0, 1, 2, 5);
        Due.take(x, 0, 1, 3, 7);
        Due.take(x, 0, 3, 3, 0);
        Due.take(x, 0, 2, 30, 0);
        Due.result("below 0", x, 0, 0, 0, 8, 2, -12, -7, -5);
        Due.result("above 0", x, 1, 1, 0, 8, 2, 12, 5, 7);
        Due.result("0", x, 2, 3, 0, 8, 1, 0, 0, 0);
    }

    private static void valuesAtTheEdges() {
        Due.sentence("Terms: a VALUE -50 .. 50 (the greatest sums)");
        for (int value = -50; value <= 50; value += 100) {
            StreamWindows x = new StreamWindows(0, 8, 1, 0);
            for (int n = 0; n < 57; n++) {
                x.arrive(Due.code(n % 3, 1, n % 8), value);
            }
            for (int source = 0; source < 3; source++) {
                x.arrive(Due.code(source, 2, 8), 0);
            }
            x.readAll();
            Due.is("results()", x.results(), 1);
            Due.result("of " + value, x, 0, 1, 0, 8, 57, 57 * value, value, value);
        }
    }

    /** One result. */
    private static StreamWindows withOne() {
        StreamWindows x = Due.following0(0, 1, 1, 0);
        Due.take(x, 0, 1, 5, 9);
        Due.take(x, 0, 1, 6, 9);
        return x;
    }

    private static void noResultI() {
        Due.sentence("Promise 9: There is no result i: NONE");
        StreamWindows none = Due.following0(0, 1, 1, 0);
        Due.take(none, 0, 1, 5, 9);
        StreamWindows x = withOne();
        Due.is("result(0, 0)", x.result(0, 0), 1);
        for (int what = 0; what < 7; what++) {
            Due.is("of none: result(0, " + what + ")", none.result(0, what), StreamWindows.NONE);
            for (int i : new int[] {Integer.MIN_VALUE, -7, -2, -1, 1, 2, 240, 613566757,
                Integer.MAX_VALUE}) {
                Due.is("result(" + i + ", " + what + ")", x.result(i, what), StreamWindows.NONE);
            }
        }
    }

    private static void whatNotThere() {
        Due.sentence("Promise 9: or what is not 0 .. 6: NONE");
        StreamWindows x = withOne();
        Due.take(x, 0, 2, 7, 9);
        for (int what : new int[] {Integer.MIN_VALUE, -7, -2, -1, 7, 8, Integer.MAX_VALUE}) {
            Due.is("result(0, " + what + ")", x.result(0, what), StreamWindows.NONE);
            Due.is("result(1, " + what + ")", x.result(1, what), StreamWindows.NONE);
        }
        Due.is("result(0, 6)", x.result(0, 6), 9);
        Due.is("result(1, 0)", x.result(1, 0), 1);
    }

    private static void bothNotThere() {
        Due.sentence("Promise 9: There is no result i, or what is not 0 .. 6: NONE (both)");
        StreamWindows x = withOne();
        Due.is("result(-1, 7)", x.result(-1, 7), StreamWindows.NONE);
        Due.is("result(1, -7)", x.result(1, -7), StreamWindows.NONE);
        Due.is("result(-1, -1)", x.result(-1, -1), StreamWindows.NONE);
    }

    private static void goneByACrash() {
        Due.sentence("Promise 9: There is no result i: NONE (any more)");
        StreamWindows x = withOne();
        x.crash();
        Due.is("results()", x.results(), 0);
        Due.is("result(0, 0)", x.result(0, 0), StreamWindows.NONE);
    }

    private static void eachKeyOfAWindow() {
        Due.sentence("Terms: for each key of the events that count for a window there is a RESULT");
        StreamWindows x = Due.following0(0, 8, 1, 0);
        for (int key = 3; key >= 0; key--) {
            Due.take(x, 0, key, key, key + 10);
            Due.take(x, 0, key, 7 - key, key + 20);
        }
        Due.is("four at once", Due.take(x, 0, 0, 8, 1), 4);
        for (int key = 0; key < 4; key++) {
            Due.result("key " + key, x, key, key, 0, 8, 2, 2 * key + 30, key + 10, key + 20);
        }
    }

    private static void orderOfEnds() {
        Due.sentence("Terms: in the order of their ends");
        StreamWindows x = Due.following0(0, 4, 1, 20);
        Due.take(x, 0, 0, 12, 1);
        Due.take(x, 0, 1, 8, 2);
        Due.take(x, 0, 2, 4, 3);
        Due.take(x, 0, 3, 0, 4);
        Due.is("all at once", Due.take(x, 0, 0, 40, 5), 4);
        for (int i = 0; i < 4; i++) {
            Due.result("the least end first", x, i, 3 - i, 4 * i, 4 * i + 4, 1, 4 - i, 4 - i, 4 - i);
        }
    }

    private static void orderOfKeys() {
        Due.sentence("Terms: with the same end in the order of keys");
        StreamWindows x = Due.following0(1, 4, 2, 20);
        Due.take(x, 0, 3, 8, 1);
        Due.take(x, 0, 2, 4, 2);
        Due.take(x, 0, 1, 5, 3);
        Due.take(x, 0, 3, 1, 4);
        Due.is("all at once", Due.take(x, 0, 0, 36, 5), 8);
        Due.result("end 4", x, 0, 3, -4, 4, 1, 4, 4, 4);
        Due.result("end 8, key 1", x, 1, 1, 0, 8, 1, 3, 3, 3);
        Due.result("end 8, key 2", x, 2, 2, 0, 8, 1, 2, 2, 2);
        Due.result("end 8, key 3", x, 3, 3, 0, 8, 1, 4, 4, 4);
        Due.result("end 12, key 1", x, 4, 1, 4, 12, 1, 3, 3, 3);
        Due.result("end 12, key 2", x, 5, 2, 4, 12, 1, 2, 2, 2);
        Due.result("end 12, key 3", x, 6, 3, 4, 12, 1, 1, 1, 1);
        Due.result("end 16", x, 7, 3, 8, 16, 1, 1, 1, 1);
    }

    /**
     * Sessions with the same end can differ in their starts, and their keys go first. Two with the
     * same end and key can't be open: the later event at that time would have joined them.
     */
    private static void orderOfSessions() {
        Due.sentence("Terms: with the same end in the order of keys (sessions)");
        StreamWindows x = Due.following0(2, 3, 1, 20);
        Due.take(x, 0, 0, 10, 1);
        Due.take(x, 0, 3, 2, 2);
        Due.take(x, 0, 1, 7, 3);
        Due.take(x, 0, 1, 10, 4);
        Due.take(x, 0, 0, 2, 5);
        Due.take(x, 0, 2, 12, 6);
        Due.is("all at once", Due.take(x, 0, 0, 35, 7), 5);
        Due.result("end 5, key 0", x, 0, 0, 2, 5, 1, 5, 5, 5);
        Due.result("end 5, key 3", x, 1, 3, 2, 5, 1, 2, 2, 2);
        Due.result("end 13, key 0", x, 2, 0, 10, 13, 1, 1, 1, 1);
        Due.result("end 13, key 1, though its start is less", x, 3, 1, 7, 13, 2, 7, 3, 4);
        Due.result("end 15", x, 4, 2, 12, 15, 1, 6, 6, 6);
    }

    /**
     * No run has two results with the same end and key in one closing (see above; and windows with
     * the same end have the same start), so this shows that those of one key that close at once
     * come in the order of starts, and never two with the same end.
     */
    private static void orderOfStarts() {
        Due.sentence("Terms: with the same key too in the order of starts");
        int[] times = {15, 3, 9, 0, 12, 6};
        for (int kind = 0; kind <= 2; kind++) {
            for (int width = 1; width <= 3; width++) {
                StreamWindows x = Due.following0(kind, width, 3, 20);
                for (int time : times) {
                    Due.take(x, 0, 3, time, 1);
                    Due.take(x, 0, 1, time + 1, 1);
                }
                int closed = Due.take(x, 0, 0, 63, 1);
                Due.is("at once", closed, x.results());
                startsGoUp("kind " + kind + ", width " + width, x);
            }
        }
    }

    private static void startsGoUp(String name, StreamWindows x) {
        for (int key = 1; key <= 3; key += 2) {
            int before = -1;
            for (int i = 0; i < x.results(); i++) {
                if (x.result(i, 0) != key) {
                    continue;
                }
                if (before >= 0) {
                    boolean up = x.result(before, 1) < x.result(i, 1)
                            && x.result(before, 2) < x.result(i, 2);
                    Due.is(name + ", key " + key + ": results " + before + " and " + i + " go up",
                            up ? 1 : 0, 1);
                }
                before = i;
            }
            Due.is(name + ": key " + key + " has results", before >= 0 ? 1 : 0, 1);
        }
    }

    private static void atTheEndOfTheRow() {
        Due.sentence("Terms: there is a RESULT at the end of the row of results");
        StreamWindows x = Due.following0(0, 2, 1, 0);
        Due.take(x, 0, 3, 1, 1);
        Due.take(x, 0, 2, 3, 2);
        Due.take(x, 0, 1, 5, 3);
        Due.take(x, 0, 0, 7, 4);
        Due.is("results()", x.results(), 3);
        for (int i = 0; i < 3; i++) {
            Due.result("by turns", x, i, 3 - i, 2 * i, 2 * i + 2, 1, i + 1, i + 1, i + 1);
        }
    }
}
