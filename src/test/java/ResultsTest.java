/** Promises 8 and 9: results and result, and the order of results. */
public final class ResultsTest {
    public static void main(String[] args) {
        whatAResultHas();
        edges();
        orderOfWindows();
        orderOfSessions();
        Due.end();
    }

    private static void whatAResultHas() {
        StreamWindows x = Due.following0(0, 6, 1, 0);
        Due.take(x, 0, 2, 7, -3);
        Due.take(x, 0, 2, 11, 50);
        Due.take(x, 0, 2, 6, -50);
        Due.take(x, 0, 2, 8, 12);
        Due.is("results() before", x.results(), 0);
        Due.take(x, 0, 0, 12, 1);
        Due.is("results()", x.results(), 1);
        Due.result("four events", x, 0, 2, 6, 12, 4, 9, -50, 50);
        Due.take(x, 0, 0, 20, 1);
        Due.is("results()", x.results(), 2);
        Due.result("one event", x, 1, 0, 12, 18, 1, 1, 1, 1);
        Due.result("the first stays as it was", x, 0, 2, 6, 12, 4, 9, -50, 50);

        // Least and greatest of values that are all of one sign.
        StreamWindows signs = Due.following0(0, 8, 1, 0);
        Due.take(signs, 0, 0, 0, -7);
        Due.take(signs, 0, 0, 1, -5);
        Due.take(signs, 0, 1, 2, 5);
        Due.take(signs, 0, 1, 3, 7);
        Due.take(signs, 0, 2, 30, 0);
        Due.result("below 0", signs, 0, 0, 0, 8, 2, -12, -7, -5);
        Due.result("above 0", signs, 1, 1, 0, 8, 2, 12, 5, 7);
    }

    private static void edges() {
        StreamWindows x = Due.following0(0, 1, 1, 0);
        Due.is("result(0, 0) of none", x.result(0, 0), StreamWindows.NONE);
        Due.take(x, 0, 1, 5, 9);
        Due.take(x, 0, 1, 6, 9);
        Due.is("result(0, 0)", x.result(0, 0), 1);
        for (int i : new int[] {-1, 1, 240, 1680, Integer.MIN_VALUE, Integer.MAX_VALUE}) {
            Due.is("result(" + i + ", 0)", x.result(i, 0), StreamWindows.NONE);
        }
        for (int what : new int[] {-1, 7, Integer.MIN_VALUE, Integer.MAX_VALUE}) {
            Due.is("result(0, " + what + ")", x.result(0, what), StreamWindows.NONE);
        }
    }

    private static void orderOfWindows() {
        StreamWindows x = Due.following0(1, 4, 2, 20);
        Due.take(x, 0, 3, 8, 1);
        Due.take(x, 0, 2, 4, 2);
        Due.take(x, 0, 1, 5, 3);
        Due.take(x, 0, 3, 1, 4);
        Due.is("all at once", Due.take(x, 0, 0, 36, 5), 8);
        Due.result("end 4", x, 0, 3, -4, 4, 1, 4, 4, 4);
        Due.result("end 8, key 1", x, 1, 1, 0, 8, 1, 3, 3, 3);
        Due.result("end 8, key 2", x, 2, 2, 0, 8, 1, 2, 2, 2);
        Due.result("end 8, key 3", x, 3, 3, 0, 8, 1, 4, 4, 4);
        Due.result("end 12, key 1", x, 4, 1, 4, 12, 1, 3, 3, 3);
        Due.result("end 12, key 2", x, 5, 2, 4, 12, 1, 2, 2, 2);
        Due.result("end 12, key 3", x, 6, 3, 4, 12, 1, 1, 1, 1);
        Due.result("end 16", x, 7, 3, 8, 16, 1, 1, 1, 1);
    }

    private static void orderOfSessions() {
        StreamWindows x = Due.following0(2, 3, 1, 20);
        Due.take(x, 0, 0, 10, 1);
        Due.take(x, 0, 3, 2, 2);
        Due.take(x, 0, 1, 7, 3);
        Due.take(x, 0, 1, 10, 4);
        Due.take(x, 0, 0, 2, 5);
        Due.take(x, 0, 2, 12, 6);
        Due.is("all at once", Due.take(x, 0, 0, 35, 7), 5);
        Due.result("end 5, key 0", x, 0, 0, 2, 5, 1, 5, 5, 5);
        Due.result("end 5, key 3", x, 1, 3, 2, 5, 1, 2, 2, 2);
        Due.result("end 13, key 0", x, 2, 0, 10, 13, 1, 1, 1, 1);
        Due.result("end 13, key 1, though its start is less", x, 3, 1, 7, 13, 2, 7, 3, 4);
        Due.result("end 15", x, 4, 2, 12, 15, 1, 6, 6, 6);
    }
}
