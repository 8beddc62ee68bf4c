/** Promise 16: digest. */
public final class DigestTest {
    public static void main(String[] args) {
        StreamWindows x = Due.following0(0, 4, 1, 0);
        Due.is("digest() of none", x.digest(), 0);
        Due.take(x, 0, 3, 5, 10);
        Due.take(x, 0, 3, 6, -2);
        Due.is("open windows do not count", x.digest(), 0);
        Due.take(x, 0, 1, 9, 20);
        int first = 3 + 3 * 4 + 5 * 8 + 7 * 2 + 11 * 8 + 13 * -2 + 17 * 10;
        Due.is("digest() of one", x.digest(), first);
        Due.take(x, 0, 0, 20, 20);
        int second = 1 + 3 * 8 + 5 * 12 + 7 * 1 + 11 * 20 + 13 * 20 + 17 * 20;
        Due.is("digest() of two", x.digest(), first + 2 * second);

        StreamWindows y = Due.following0(1, 1, 4, 0);
        for (int n = 0; n < 20; n++) {
            y.arrive(Due.code(0, n % 4, 3 * n), 50 - n);
        }
        y.readAll();
        int want = 0;
        for (int i = 0; i < y.results(); i++) {
            int one = y.result(i, 0) + 3 * y.result(i, 1) + 5 * y.result(i, 2)
                    + 7 * y.result(i, 3) + 11 * y.result(i, 4) + 13 * y.result(i, 5)
                    + 17 * y.result(i, 6);
            want += (i + 1) * one;
        }
        Due.is("results()", y.results(), 75);
        Due.is("digest() of many", y.digest(), want);
        Due.end();
    }
}
