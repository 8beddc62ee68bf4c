/** What the tests share: compares answers with those that are due, and ends a test. */
final class Due {
    private static String sentence = "";
    private static int wrong = 0;

    private Due() {
    }

    /** Names what the document says, in its words, where the checks that follow are about it. */
    static void sentence(String text) {
        sentence = text;
    }

    static void is(String call, long got, long want) {
        if (got != want) {
            wrong++;
            System.out.println(call + " answered " + got + ", due is " + want
                    + " (\"" + sentence + "\")");
        }
    }

    /** Compares a whole result with key, start, end, events, sum, least and greatest. */
    static void result(String name, StreamWindows x, int i, int... want) {
        for (int what = 0; what < 7; what++) {
            is(name + ": result(" + i + ", " + what + ")", x.result(i, what), want[what]);
        }
    }

    static int code(int source, int key, int time) {
        return 64 * (4 * source + key) + time;
    }

    /** An object whose mark follows one source alone. */
    static StreamWindows following(int source, int kind, int width, int many, int lateness) {
        StreamWindows x = new StreamWindows(kind, width, many, lateness);
        for (int other = 0; other < 3; other++) {
            if (other != source) {
                x.idle(other, true);
            }
        }
        return x;
    }

    static StreamWindows following0(int kind, int width, int many, int lateness) {
        return following(0, kind, width, many, lateness);
    }

    /** Appends an event to a source with nothing unread, and reads it. */
    static int take(StreamWindows x, int source, int key, int time, int value) {
        x.arrive(code(source, key, time), value);
        return x.read(source);
    }

    static void end() {
        if (wrong > 0) {
            System.exit(1);
        }
    }
}
