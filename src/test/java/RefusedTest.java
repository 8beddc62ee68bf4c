import java.util.ArrayList;
import java.util.List;
import java.util.function.ToIntFunction;

/** What a refused call changes, and what a question changes: nothing. */
public final class RefusedTest {
    private static final int[] NOT_GOOD = {Integer.MIN_VALUE, -1, 3, 4, Integer.MAX_VALUE};

    public static void main(String[] args) {
        for (int kind = 0; kind <= 2; kind++) {
            badArrivals(kind);
            fullSource(kind);
            badReadings(kind);
            nothingToRead(kind);
            badIdle(kind);
            questions(kind);
            badQuestions(kind);
        }
        belowZeroIsNoRefusal();
        Due.end();
    }

    /**
     * Something of everything: results, open ones, a late event, a keeping, events to be read, a
     * full source (0) and one of which all was read (2). No question has been asked.
     */
    private static StreamWindows amid(int kind, boolean twoIsIdle) {
        StreamWindows x = Due.following0(kind, 3, 2, 0);
        Due.take(x, 0, 0, 4, 5);
        Due.take(x, 0, 1, 12, -6);
        Due.take(x, 1, 2, 3, 7);
        x.keep();
        for (int n = 0; n < 17; n++) {
            Due.take(x, 0, n % 4, 13 + n % 5, 8);
        }
        x.arrive(Due.code(0, 0, 40), 12);
        x.arrive(Due.code(1, 3, 20), 9);
        x.arrive(Due.code(1, 2, 25), 10);
        Due.take(x, 2, 1, 17, 11);
        x.idle(0, !twoIsIdle);
        x.idle(2, twoIsIdle);
        return x;
    }

    /** All that questions tell. */
    private static List<Integer> told(StreamWindows x) {
        List<Integer> all = new ArrayList<>(List.of(x.mark(), x.results(), x.late(), x.kept(),
                x.digest(), x.position(0), x.position(1), x.position(2)));
        for (int key = 0; key < 4; key++) {
            all.add(x.open(key));
            all.add(x.pending(key));
        }
        for (int i = 0; i < 3; i++) {
            for (int what = 0; what < 7; what++) {
                all.add(x.result(i, what));
            }
        }
        return all;
    }

    /** What no question tells: the events to be read, and, by where the mark goes, who is idle. */
    private static List<Integer> readOn(StreamWindows x) {
        List<Integer> all = new ArrayList<>();
        all.add(x.arrive(Due.code(2, 2, 30), 3));
        all.add(x.read(2));
        all.add(x.read(0));
        all.add(x.readAll());
        for (int source = 0; source < 3; source++) {
            all.add(x.arrive(Due.code(source, 2, 30), 3));
        }
        return all;
    }

    /** Questions come last, because one that changes something could undo what is looked for. */
    private static List<Integer> answers(StreamWindows x, boolean crash, boolean readOn) {
        List<Integer> all = new ArrayList<>();
        if (crash) {
            all.add(x.crash());
        }
        if (readOn) {
            all.addAll(readOn(x));
        }
        all.addAll(told(x));
        return all;
    }

    private static void changesNothing(String name, int kind, ToIntFunction<StreamWindows> call,
            int want) {
        for (int way = 0; way < 8; way++) {
            boolean twoIsIdle = (way & 1) == 0;
            StreamWindows with = amid(kind, twoIsIdle);
            StreamWindows without = amid(kind, twoIsIdle);
            String where = "kind " + kind + ", way " + way + ": ";
            Due.is(where + name, call.applyAsInt(with), want);
            boolean crash = (way & 2) != 0;
            boolean readOn = (way & 4) != 0;
            boolean same = answers(with, crash, readOn).equals(answers(without, crash, readOn));
            Due.is(where + "the same after " + name, same ? 1 : 0, 1);
        }
    }

    private static void badArrivals(int kind) {
        Due.sentence("Terms: A refused call changes nothing (arrive, BAD)");
        for (int code : new int[] {Integer.MIN_VALUE, -1, 768, Integer.MAX_VALUE}) {
            changesNothing("arrive(" + code + ", 0)", kind, x -> x.arrive(code, 0),
                    StreamWindows.BAD);
        }
        for (int value : new int[] {Integer.MIN_VALUE, -51, 51, Integer.MAX_VALUE}) {
            changesNothing("arrive(300, " + value + ")", kind, x -> x.arrive(300, value),
                    StreamWindows.BAD);
        }
    }

    private static void fullSource(int kind) {
        Due.sentence("Terms: A refused call changes nothing (arrive, FULL)");
        changesNothing("arrive(63, 50)", kind, x -> x.arrive(63, 50), StreamWindows.FULL);
        changesNothing("arrive(0, -50)", kind, x -> x.arrive(0, -50), StreamWindows.FULL);
    }

    private static void badReadings(int kind) {
        Due.sentence("Terms: A refused call changes nothing (read, BAD)");
        for (int source : NOT_GOOD) {
            changesNothing("read(" + source + ")", kind, x -> x.read(source), StreamWindows.BAD);
        }
    }

    private static void nothingToRead(int kind) {
        Due.sentence("Terms: A refused call changes nothing (read, NONE)");
        changesNothing("read(2)", kind, x -> x.read(2), StreamWindows.NONE);
    }

    private static void badIdle(int kind) {
        Due.sentence("Terms: A refused call changes nothing (idle, BAD)");
        for (int source : NOT_GOOD) {
            for (boolean flag : new boolean[] {true, false}) {
                changesNothing("idle(" + source + ", " + flag + ")", kind,
                        x -> x.idle(source, flag), StreamWindows.BAD);
            }
        }
    }

    private static void questions(int kind) {
        Due.sentence("Terms: Questions change nothing");
        List<Integer> first = told(amid(kind, true));
        changesNothing("mark()", kind, StreamWindows::mark, first.get(0));
        changesNothing("results()", kind, StreamWindows::results, first.get(1));
        changesNothing("late()", kind, StreamWindows::late, first.get(2));
        changesNothing("kept()", kind, StreamWindows::kept, first.get(3));
        changesNothing("digest()", kind, StreamWindows::digest, first.get(4));
        for (int n = 0; n < 3; n++) {
            int source = n;
            changesNothing("position(" + n + ")", kind, x -> x.position(source), first.get(5 + n));
        }
        for (int n = 0; n < 4; n++) {
            int key = n;
            changesNothing("open(" + n + ")", kind, x -> x.open(key), first.get(8 + 2 * n));
            changesNothing("pending(" + n + ")", kind, x -> x.pending(key), first.get(9 + 2 * n));
        }
        for (int n = 0; n < 7; n++) {
            int what = n;
            changesNothing("result(0, " + n + ")", kind, x -> x.result(0, what), first.get(16 + n));
        }
    }

    private static void badQuestions(int kind) {
        Due.sentence("Terms: Questions change nothing (refused ones)");
        for (int n : NOT_GOOD) {
            changesNothing("position(" + n + ")", kind, x -> x.position(n), StreamWindows.BAD);
        }
        for (int n : new int[] {Integer.MIN_VALUE, -1, 4, Integer.MAX_VALUE}) {
            changesNothing("open(" + n + ")", kind, x -> x.open(n), StreamWindows.BAD);
            changesNothing("pending(" + n + ")", kind, x -> x.pending(n), 0);
        }
        for (int n : new int[] {Integer.MIN_VALUE, -1, 240, Integer.MAX_VALUE}) {
            changesNothing("result(" + n + ", 0)", kind, x -> x.result(n, 0), StreamWindows.NONE);
            changesNothing("result(0, " + n + ")", kind, x -> x.result(0, n), StreamWindows.NONE);
        }
    }

    private static void belowZeroIsNoRefusal() {
        Due.sentence("Terms: (an answer below 0, if not said otherwise)");
        StreamWindows x = Due.following0(1, 4, 4, 20);
        Due.take(x, 0, 2, 1, -50);
        Due.is("mark()", x.mark(), -19);
        Due.is("pending(2)", x.pending(2), -50);
        Due.take(x, 0, 1, 24, 0);
        Due.is("result(0, 1)", x.result(0, 1), -12);
        Due.is("result(0, 4)", x.result(0, 4), -50);
        Due.is("digest()", x.digest(), 2 - 36 + 20 + 7 - 550 - 650 - 850);
    }
}
