/** Promise 2: arrive. */
public final class ArriveTest {
    public static void main(String[] args) {
        everyCode();
        codeTooSmall();
        codeTooLarge();
        valueTooSmall();
        valueTooLarge();
        twentyEvents();
        fullForGood();
        badBeforeFull();
        answersHowMany();
        readsNothing();
        Due.end();
    }

    /** Each code goes to its source, with its key and time; all values occur too. */
    private static void everyCode() {
        Due.sentence("Promise 2: code is 64 * (4 * source + key) + time, value -50 .. 50");
        for (int source = 0; source < 3; source++) {
            for (int key = 0; key < 4; key++) {
                for (int time = 0; time < 64; time++) {
                    int code = 64 * (4 * source + key) + time;
                    oneCode(code, code % 101 - 50, source, key, time);
                }
            }
        }
    }

    private static void oneCode(int code, int value, int source, int key, int time) {
        String name = "after arrive(" + code + ", " + value + "): ";
        StreamWindows x = Due.following(source, 0, 1, 1, 0);
        Due.is("arrive(" + code + ", " + value + ")", x.arrive(code, value), 1);
        Due.is(name + "read", x.read(source), 0);
        Due.is(name + "readAll(), the other sources", x.readAll(), 0);
        Due.is(name + "mark()", x.mark(), time);
        for (int k = 0; k < 4; k++) {
            Due.is(name + "open(" + k + ")", x.open(k), k == key ? 1 : 0);
            Due.is(name + "pending(" + k + ")", x.pending(k), k == key ? value : 0);
        }
    }

    private static void isBad(int code, int value) {
        StreamWindows x = new StreamWindows(0, 1, 1, 0);
        Due.is("arrive(" + code + ", " + value + ")", x.arrive(code, value), StreamWindows.BAD);
        Due.is("readAll()", x.readAll(), 0);
        for (int source = 0; source < 3; source++) {
            Due.is("arrive, source " + source, x.arrive(Due.code(source, 0, 0), 0), 1);
        }
    }

    private static void isGood(int code, int value) {
        StreamWindows x = new StreamWindows(0, 1, 1, 0);
        Due.is("arrive(" + code + ", " + value + ")", x.arrive(code, value), 1);
    }

    private static void codeTooSmall() {
        Due.sentence("Promise 2: code is not 0 .. 767: BAD (too small)");
        for (int code : new int[] {Integer.MIN_VALUE, -768, -256, -64, -2, -1}) {
            isBad(code, 0);
        }
        isGood(0, 0);
    }

    private static void codeTooLarge() {
        Due.sentence("Promise 2: code is not 0 .. 767: BAD (too large)");
        for (int code : new int[] {768, 769, 1023, 1024, Integer.MAX_VALUE}) {
            isBad(code, 0);
        }
        isGood(767, 0);
    }

    private static void valueTooSmall() {
        Due.sentence("Promise 2: value not -50 .. 50: BAD (too small)");
        for (int value : new int[] {Integer.MIN_VALUE, -100, -52, -51}) {
            isBad(300, value);
        }
        isGood(300, -50);
    }

    private static void valueTooLarge() {
        Due.sentence("Promise 2: value not -50 .. 50: BAD (too large)");
        for (int value : new int[] {51, 52, 100, Integer.MAX_VALUE}) {
            isBad(300, value);
        }
        isGood(300, 50);
    }

    /** Twenty events in a source; the others have their own room. */
    private static StreamWindows withTwenty(int source) {
        StreamWindows x = new StreamWindows(1, 8, 4, 20);
        for (int n = 1; n <= 20; n++) {
            Due.is("arrive " + n, x.arrive(Due.code(source, n % 4, n), n), n);
        }
        return x;
    }

    private static void twentyEvents() {
        Due.sentence("Promise 2: the source has twenty events: FULL");
        for (int source = 0; source < 3; source++) {
            StreamWindows x = withTwenty(source);
            Due.is("arrive 21", x.arrive(Due.code(source, 0, 0), 0), StreamWindows.FULL);
            Due.is("arrive 22", x.arrive(Due.code(source, 3, 63), 0), StreamWindows.FULL);
            for (int other = 0; other < 3; other++) {
                if (other != source) {
                    Due.is("another source", x.arrive(Due.code(other, 0, 0), 0), 1);
                }
            }
            Due.is("readAll()", x.readAll(), 22);
        }
    }

    private static void fullForGood() {
        Due.sentence("Terms: each is a row of at most twenty events, that grows");
        for (int source = 0; source < 3; source++) {
            StreamWindows x = withTwenty(source);
            x.keep();
            x.readAll();
            Due.is("all read", x.arrive(Due.code(source, 0, 0), 0), StreamWindows.FULL);
            x.crash();
            Due.is("crashed", x.arrive(Due.code(source, 0, 0), 0), StreamWindows.FULL);
        }
    }

    private static void badBeforeFull() {
        Due.sentence("Terms: In every method the tests are made in the order named (BAD, FULL)");
        for (int source = 0; source < 3; source++) {
            StreamWindows x = withTwenty(source);
            Due.is("full, value 51", x.arrive(Due.code(source, 0, 0), 51), StreamWindows.BAD);
            Due.is("full, value -51", x.arrive(Due.code(source, 3, 63), -51), StreamWindows.BAD);
            Due.is("full, code -1", x.arrive(-1, 0), StreamWindows.BAD);
            Due.is("full, code 768", x.arrive(768, 0), StreamWindows.BAD);
        }
    }

    private static void answersHowMany() {
        Due.sentence("Promise 2: Else answers how many it has then");
        StreamWindows x = new StreamWindows(0, 1, 1, 0);
        Due.is("source 2, first", x.arrive(512, 1), 1);
        Due.is("source 0, first", x.arrive(255, 2), 1);
        Due.is("source 2, second", x.arrive(767, 3), 2);
        x.arrive(768, 0);
        x.arrive(767, 51);
        Due.is("source 2, third after refused ones", x.arrive(600, 4), 3);
        Due.is("source 1, first", x.arrive(256, 5), 1);
        x.readAll();
        Due.is("source 2, those that were read count too", x.arrive(600, 6), 4);
        x.crash();
        Due.is("source 2, after a crash", x.arrive(600, 7), 5);
    }

    private static void readsNothing() {
        Due.sentence("Promise 2: Appends an event to a source");
        StreamWindows x = Due.following0(2, 3, 1, 0);
        x.arrive(Due.code(0, 1, 40), 5);
        Due.is("position(0)", x.position(0), 0);
        Due.is("mark()", x.mark(), -1000);
        Due.is("open(1)", x.open(1), 0);
        Due.is("pending(1)", x.pending(1), 0);
        Due.is("idle(0, false) looks at the mark", x.idle(0, false), 0);
        Due.is("mark(): an event that was not read does not count", x.mark(), -1000);
    }
}
