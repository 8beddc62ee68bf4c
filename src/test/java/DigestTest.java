/** Promise 16: digest. */
public final class DigestTest {
    public static void main(String[] args) {
        noResults();
        oneResult();
        eachPart();
        timesItsPlace();
        belowZero();
        asManyAsCanBe();
        Due.end();
    }

    private static int part(int key, int start, int end, int events, int sum, int least,
            int greatest) {
        return key + 3 * start + 5 * end + 7 * events + 11 * sum + 13 * least + 17 * greatest;
    }

    private static void noResults() {
        Due.sentence("Promise 16: The sum, over all results i (there are none)");
        StreamWindows x = Due.following0(0, 4, 1, 0);
        Due.is("digest()", x.digest(), 0);
        Due.take(x, 0, 3, 5, 10);
        Due.is("open windows do not count: digest()", x.digest(), 0);
        Due.take(x, 0, 3, 9, 10);
        x.crash();
        Due.is("after a crash: digest()", x.digest(), 0);
    }

    private static void oneResult() {
        Due.sentence("Promise 16: (key + 3 * start + 5 * end + 7 * events + 11 * sum + 13 * least +"
                + " 17 * greatest)");
        StreamWindows x = Due.following0(0, 4, 1, 0);
        Due.take(x, 0, 3, 5, 10);
        Due.take(x, 0, 3, 6, -2);
        Due.take(x, 0, 1, 9, 20);
        Due.is("digest()", x.digest(), part(3, 4, 8, 2, 8, -2, 10));
    }

    /** Objects with one result each, of which each has one number of another size. */
    private static void eachPart() {
        Due.sentence("Promise 16: (key + 3 * start + 5 * end + 7 * events + 11 * sum + 13 * least +"
                + " 17 * greatest) (each part)");
        for (int width = 1; width <= 8; width++) {
            for (int key = 0; key < 4; key++) {
                StreamWindows x = Due.following0(2, width, 1, 0);
                Due.take(x, 0, key, 10, 4 - width);
                Due.take(x, 0, key, 10 + width, 6 * key);
                Due.take(x, 0, key, 11, -5 * key);
                Due.take(x, 0, 0, 50, 0);
                int a = 4 - width;
                int least = Math.min(a, -5 * key);
                int greatest = Math.max(a, 6 * key);
                Due.is("width " + width + ", key " + key + ": digest()", x.digest(),
                        part(key, 10, 10 + 2 * width, 3, a + key, least, greatest));
            }
        }
    }

    private static void timesItsPlace() {
        Due.sentence("Promise 16: of (i + 1) times");
        StreamWindows x = Due.following0(0, 4, 1, 0);
        int want = 0;
        for (int i = 0; i < 10; i++) {
            Due.take(x, 0, i % 4, 4 * i, i + 1);
            Due.is(i + " results: digest()", x.digest(), want);
            want += (i + 1) * part(i % 4, 4 * i, 4 * i + 4, 1, i + 1, i + 1, i + 1);
        }
    }

    private static void belowZero() {
        Due.sentence("Promise 16: The sum, over all results (below 0)");
        StreamWindows x = Due.following0(1, 8, 4, 0);
        Due.take(x, 0, 0, 0, -50);
        Due.take(x, 0, 0, 8, -50);
        Due.is("results()", x.results(), 1);
        Due.is("digest(), no refusal", x.digest(), part(0, -24, 8, 1, -50, -50, -50));
    }

    /**
     * No run comes near to wrapping: 240 results of at most sixty events. So the greatest number of
     * results that close is compared with a sum of longs.
     */
    private static void asManyAsCanBe() {
        Due.sentence("Promise 16: (wrapping)");
        for (int value = -50; value <= 50; value += 100) {
            StreamWindows x = new StreamWindows(1, 1, 4, 0);
            for (int n = 0; n < 60; n++) {
                x.arrive(Due.code(n / 20, n % 4, n / 4 * 4), value);
            }
            x.idle(0, true);
            x.idle(1, true);
            x.idle(2, true);
            x.readAll();
            x.idle(2, false);
            long want = 0;
            int i = 0;
            for (int end = 1; end <= 56; end++) {
                for (int key = 0; key < 4; key++) {
                    i++;
                    want += (long) i * part(key, end - 4, end, 1, value, value, value);
                }
            }
            Due.is("results()", x.results(), 224);
            Due.is("of " + value + ": digest()", x.digest(), want);
        }
    }
}
