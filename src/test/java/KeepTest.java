/** Promises 13, 14 and 15: keep, crash and kept. */
public final class KeepTest {
    public static void main(String[] args) {
        keepsWhatIsRead();
        keepsTheMark();
        keepsWhichAreIdle();
        keepsTheResults();
        for (int kind = 0; kind <= 2; kind++) {
            keepsAllThatCounts(kind);
            keepsTheLateOnes(kind);
            inTheBeginning(kind);
            everythingAtOnce(kind);
        }
        answersHowManyAreKept();
        keepChangesNothing();
        latestKeeping();
        eventsStay();
        fullSourcesStayFull();
        readAgain();
        crashAtOnce();
        crashAfterCrash();
        keepAfterCrash();
        keptWithoutKeeping();
        keptAtTheLatest();
        notMixedWithWhatWasLost();
        Due.end();
    }

    private static void keepsWhatIsRead() {
        Due.sentence("Promise 13: Keeps what is read");
        StreamWindows x = new StreamWindows(0, 4, 1, 0);
        for (int source = 0; source < 3; source++) {
            for (int n = 0; n < 4; n++) {
                x.arrive(Due.code(source, 0, n), 1);
            }
        }
        x.read(1);
        x.read(2);
        x.read(2);
        x.keep();
        x.readAll();
        x.crash();
        for (int source = 0; source < 3; source++) {
            Due.is("position(" + source + ")", x.position(source), source);
        }
        Due.is("readAll()", x.readAll(), 9);
        Due.is("pending(0): each counts once", x.pending(0), 12);
    }

    private static void keepsTheMark() {
        Due.sentence("Promise 13: what the mark is");
        StreamWindows x = Due.following0(0, 4, 1, 0);
        Due.take(x, 0, 0, 20, 1);
        x.keep();
        Due.take(x, 0, 0, 30, 1);
        Due.is("mark()", x.mark(), 30);
        x.crash();
        Due.is("mark()", x.mark(), 20);

        // A mark that its sources would not make: the one that made it went idle.
        StreamWindows y = Due.following0(0, 4, 1, 0);
        Due.take(y, 0, 0, 20, 1);
        y.idle(1, false);
        y.idle(0, true);
        y.keep();
        Due.take(y, 1, 0, 40, 1);
        Due.is("mark()", y.mark(), 40);
        y.crash();
        Due.is("mark()", y.mark(), 20);
    }

    private static void keepsWhichAreIdle() {
        Due.sentence("Promise 13: which sources are idle");
        for (int idle = 0; idle < 8; idle++) {
            StreamWindows x = new StreamWindows(0, 4, 1, 0);
            for (int source = 0; source < 3; source++) {
                x.idle(source, (idle >> source & 1) == 1);
            }
            x.keep();
            for (int source = 0; source < 3; source++) {
                x.idle(source, (idle >> source & 1) == 0);
            }
            x.crash();
            for (int source = 0; source < 3; source++) {
                Due.take(x, source, 0, 10 + source, 1);
            }
            int least = (idle & 1) == 0 ? 10 : (idle & 2) == 0 ? 11 : (idle & 4) == 0 ? 12 : -1000;
            Due.is("idle " + idle + ": mark()", x.mark(), least);
        }
    }

    private static void keepsTheResults() {
        Due.sentence("Promise 13: the results");
        StreamWindows x = Due.following0(0, 4, 1, 0);
        Due.take(x, 0, 3, 5, 10);
        Due.take(x, 0, 1, 9, 20);
        x.keep();
        int digest = x.digest();
        Due.take(x, 0, 1, 50, 20);
        Due.is("results()", x.results(), 2);
        x.crash();
        Due.is("results()", x.results(), 1);
        Due.result("kept", x, 0, 3, 4, 8, 1, 10, 10, 10);
        Due.is("result(1, 0)", x.result(1, 0), StreamWindows.NONE);
        Due.is("digest()", x.digest(), digest);
    }

    private static void keepsAllThatCounts(int kind) {
        Due.sentence("Promise 13: and all that counts");
        String name = "kind " + kind + ": ";
        StreamWindows x = Due.following0(kind, 4, 1, 0);
        Due.take(x, 1, 1, 12, 2);
        Due.take(x, 1, 1, 20, 4);
        Due.take(x, 1, 2, 13, 8);
        x.keep();
        Due.take(x, 1, 1, 13, 16);
        Due.take(x, 1, 1, 16, 32);
        Due.take(x, 1, 3, 16, 1);
        Due.take(x, 0, 0, 63, 1);
        Due.is(name + "open(1)", x.open(1), 0);
        x.crash();
        Due.is(name + "open(0)", x.open(0), 0);
        Due.is(name + "open(1)", x.open(1), 2);
        Due.is(name + "pending(1)", x.pending(1), 2);
        Due.is(name + "open(2)", x.open(2), 1);
        Due.is(name + "pending(2)", x.pending(2), 8);
        Due.is(name + "open(3)", x.open(3), 0);
        Due.is(name + "read(0)", x.read(0), 3);
        int[] starts = {12, 12, 20};
        int[] keys = {1, 2, 1};
        int[] values = {2, 8, 4};
        // The window of 13 is from 12 to 16, its session from 13 to 17.
        int shift = kind == 2 ? 1 : 0;
        for (int i = 0; i < 3; i++) {
            int start = starts[i] + (i == 1 ? shift : 0);
            Due.result(name, x, i, keys[i], start, start + 4, 1, values[i], values[i], values[i]);
        }
    }

    private static void keepsTheLateOnes(int kind) {
        Due.sentence("Promise 14: Everything becomes what it was (the number of late events too)");
        StreamWindows x = Due.following0(kind, 4, 1, 0);
        Due.take(x, 0, 0, 30, 1);
        Due.take(x, 1, 0, 3, 1);
        Due.is("late()", x.late(), 1);
        x.keep();
        Due.take(x, 1, 0, 2, 1);
        Due.take(x, 1, 0, 1, 1);
        Due.is("late()", x.late(), 3);
        x.crash();
        Due.is("late()", x.late(), 1);
        x.readAll();
        Due.is("late() when they are read again", x.late(), 3);
    }

    private static void inTheBeginning(int kind) {
        Due.sentence("Promise 14: (in the beginning, if there was none)");
        String name = "kind " + kind + ": ";
        StreamWindows x = Due.following0(kind, 2, 1, 0);
        Due.take(x, 0, 0, 5, 1);
        Due.take(x, 0, 0, 9, 2);
        Due.take(x, 0, 0, 3, 4);
        Due.is(name + "results()", x.results(), 1);
        Due.is(name + "late()", x.late(), 1);
        Due.is(name + "crash()", x.crash(), 0);
        Due.is(name + "results()", x.results(), 0);
        Due.is(name + "result(0, 0)", x.result(0, 0), StreamWindows.NONE);
        Due.is(name + "digest()", x.digest(), 0);
        Due.is(name + "late()", x.late(), 0);
        Due.is(name + "mark()", x.mark(), -1000);
        Due.is(name + "position(0)", x.position(0), 0);
        Due.is(name + "open(0)", x.open(0), 0);
        Due.is(name + "pending(0)", x.pending(0), 0);
        Due.is(name + "kept()", x.kept(), 0);
        Due.is(name + "readAll()", x.readAll(), 3);
        Due.is(name + "no source is idle: mark()", x.mark(), -1000);
        Due.is(name + "late()", x.late(), 0);

        StreamWindows empty = new StreamWindows(kind, 2, 1, 0);
        Due.is(name + "a new one: crash()", empty.crash(), 0);
        Due.is(name + "arrive", empty.arrive(0, 0), 1);
        Due.is(name + "readAll()", empty.readAll(), 1);
    }

    private static void everythingAtOnce(int kind) {
        Due.sentence("Promise 14: Everything becomes what it was at the latest keeping");
        String name = "kind " + kind + ": ";
        StreamWindows x = Due.following0(kind, 4, 1, 0);
        Due.take(x, 0, 0, 4, 1);
        Due.take(x, 0, 1, 12, 2);
        Due.take(x, 0, 1, 1, 3);
        Due.take(x, 2, 2, 13, 4);
        Due.is(name + "keep()", x.keep(), 1);
        int digest = x.digest();
        x.idle(2, false);
        x.idle(0, true);
        Due.take(x, 0, 1, 13, 8);
        Due.take(x, 2, 1, 12, 8);
        Due.take(x, 2, 3, 40, 8);
        Due.take(x, 1, 3, 2, 8);
        Due.is(name + "mark()", x.mark(), 40);
        Due.is(name + "results()", x.results(), 3);
        Due.is(name + "late()", x.late(), 2);
        Due.is(name + "crash()", x.crash(), 1);
        Due.is(name + "results()", x.results(), 1);
        Due.is(name + "digest()", x.digest(), digest);
        Due.is(name + "late()", x.late(), 1);
        Due.is(name + "mark()", x.mark(), 12);
        Due.is(name + "position(0)", x.position(0), 3);
        Due.is(name + "position(1)", x.position(1), 0);
        Due.is(name + "position(2)", x.position(2), 1);
        Due.is(name + "pending(1)", x.pending(1), 2);
        Due.is(name + "pending(2)", x.pending(2), 4);
        Due.is(name + "open(3)", x.open(3), 0);
        Due.is(name + "readAll()", x.readAll(), 4);
        Due.is(name + "source 0 is not idle, source 2 is: mark()", x.mark(), 13);
    }

    private static void answersHowManyAreKept() {
        Due.sentence("Promise 13: Answers how many results are kept");
        StreamWindows x = Due.following0(0, 1, 1, 0);
        Due.is("keep() of none", x.keep(), 0);
        for (int n = 0; n < 20; n++) {
            Due.take(x, 0, 0, n, 1);
            Due.is("keep()", x.keep(), n);
        }
        Due.is("keep() again", x.keep(), 19);
    }

    private static void keepChangesNothing() {
        Due.sentence("Promise 13: Keeps (and changes nothing of what it keeps)");
        StreamWindows x = Due.following0(0, 4, 1, 0);
        Due.take(x, 0, 0, 4, 1);
        Due.take(x, 0, 1, 12, 2);
        Due.take(x, 1, 1, 1, 3);
        x.arrive(Due.code(0, 1, 13), 4);
        x.keep();
        Due.is("results()", x.results(), 1);
        Due.is("mark()", x.mark(), 12);
        Due.is("late()", x.late(), 1);
        Due.is("position(0)", x.position(0), 2);
        Due.is("open(1)", x.open(1), 1);
        Due.is("pending(1)", x.pending(1), 2);
        Due.is("readAll()", x.readAll(), 1);
        Due.is("the idle ones are idle: mark()", x.mark(), 13);
        Due.is("pending(1)", x.pending(1), 6);
    }

    private static void latestKeeping() {
        Due.sentence("Promise 14: at the latest keeping");
        StreamWindows x = Due.following0(0, 1, 1, 0);
        Due.take(x, 0, 0, 1, 1);
        Due.take(x, 0, 0, 2, 2);
        Due.is("keep()", x.keep(), 1);
        Due.take(x, 0, 0, 3, 3);
        Due.take(x, 0, 0, 4, 4);
        Due.is("keep(), the latest", x.keep(), 3);
        Due.take(x, 0, 0, 5, 5);
        Due.is("crash()", x.crash(), 3);
        Due.is("position(0)", x.position(0), 4);
        Due.is("mark()", x.mark(), 4);
        Due.is("pending(0)", x.pending(0), 4);
    }

    private static void eventsStay() {
        Due.sentence("Promise 14: the events that the sources have stay");
        StreamWindows x = new StreamWindows(0, 8, 1, 0);
        for (int source = 0; source < 3; source++) {
            x.arrive(Due.code(source, 0, 1), 1);
        }
        x.keep();
        for (int source = 0; source < 3; source++) {
            x.arrive(Due.code(source, 0, 2), 2);
        }
        x.crash();
        for (int source = 0; source < 3; source++) {
            Due.is("arrive, source " + source, x.arrive(Due.code(source, 0, 3), 4), 3);
        }
        Due.is("readAll()", x.readAll(), 9);
        Due.is("pending(0)", x.pending(0), 21);
    }

    private static void fullSourcesStayFull() {
        Due.sentence("Promise 13: (The events of the sources are kept always.)");
        StreamWindows x = new StreamWindows(0, 8, 1, 0);
        for (int n = 0; n < 60; n++) {
            x.arrive(Due.code(n % 3, 0, 0), 1);
        }
        x.crash();
        for (int source = 0; source < 3; source++) {
            Due.is("arrive, source " + source, x.arrive(Due.code(source, 0, 3), 4),
                    StreamWindows.FULL);
        }
        Due.is("readAll()", x.readAll(), 60);
        x.crash();
        Due.is("readAll()", x.readAll(), 60);
        Due.is("pending(0)", x.pending(0), 60);
    }

    private static void readAgain() {
        Due.sentence("Promise 14: and are to be read again as far as they were not read then");
        StreamWindows x = Due.following0(0, 4, 1, 0);
        Due.take(x, 0, 0, 1, 1);
        x.keep();
        Due.take(x, 0, 0, 2, 2);
        Due.take(x, 0, 0, 6, 4);
        x.arrive(Due.code(0, 0, 7), 8);
        Due.is("crash()", x.crash(), 0);
        Due.is("read(0): the second", x.read(0), 0);
        Due.is("pending(0)", x.pending(0), 3);
        Due.is("read(0): the third", x.read(0), 1);
        Due.result("the same again", x, 0, 0, 0, 4, 2, 3, 1, 2);
        Due.is("read(0): the fourth", x.read(0), 0);
        Due.is("pending(0)", x.pending(0), 12);
        Due.is("read(0): no more", x.read(0), StreamWindows.NONE);
    }

    private static void crashAtOnce() {
        Due.sentence("Promise 14: Answers how many results there are then");
        StreamWindows x = Due.following0(0, 1, 1, 0);
        for (int n = 0; n < 5; n++) {
            Due.take(x, 0, 0, n, 1);
        }
        x.keep();
        Due.is("nothing since the keeping: crash()", x.crash(), 4);
        Due.is("results()", x.results(), 4);
        Due.take(x, 0, 0, 9, 1);
        Due.is("one more since: crash()", x.crash(), 4);
        Due.is("results()", x.results(), 4);
    }

    private static void crashAfterCrash() {
        Due.sentence("Promise 14: at the latest keeping (crash after crash)");
        StreamWindows x = Due.following0(0, 1, 1, 0);
        Due.take(x, 0, 0, 1, 1);
        Due.take(x, 0, 0, 2, 2);
        x.keep();
        Due.take(x, 0, 0, 3, 3);
        Due.take(x, 0, 0, 4, 4);
        for (int n = 0; n < 3; n++) {
            Due.is("crash()", x.crash(), 1);
            Due.is("crash()", x.crash(), 1);
            Due.is("position(0)", x.position(0), 2);
            Due.is("pending(0)", x.pending(0), 2);
            Due.is("read(0)", x.read(0), 1);
            Due.is("read(0)", x.read(0), 1);
            Due.is("results()", x.results(), 3);
        }
    }

    private static void keepAfterCrash() {
        Due.sentence("Promise 14: at the latest keeping (one after a crash)");
        StreamWindows x = Due.following0(0, 1, 1, 0);
        x.keep();
        Due.take(x, 0, 0, 1, 1);
        Due.take(x, 0, 0, 2, 2);
        x.crash();
        x.read(0);
        Due.is("keep()", x.keep(), 0);
        x.read(0);
        Due.is("results()", x.results(), 1);
        Due.is("crash()", x.crash(), 0);
        Due.is("position(0)", x.position(0), 1);
        Due.is("pending(0)", x.pending(0), 1);
    }

    private static void keptWithoutKeeping() {
        Due.sentence("Promise 15: 0 if there was none");
        StreamWindows x = Due.following0(0, 1, 1, 0);
        Due.is("kept()", x.kept(), 0);
        Due.take(x, 0, 0, 1, 1);
        Due.take(x, 0, 0, 2, 2);
        Due.is("results()", x.results(), 1);
        Due.is("kept()", x.kept(), 0);
        x.crash();
        Due.is("kept()", x.kept(), 0);
    }

    private static void keptAtTheLatest() {
        Due.sentence("Promise 15: How many results were there at the latest keeping");
        StreamWindows x = Due.following0(0, 1, 1, 0);
        Due.take(x, 0, 0, 1, 1);
        Due.take(x, 0, 0, 2, 2);
        x.keep();
        Due.is("kept()", x.kept(), 1);
        Due.take(x, 0, 0, 3, 3);
        Due.take(x, 0, 0, 4, 4);
        Due.is("kept(), whatever came since", x.kept(), 1);
        x.keep();
        Due.is("kept(), the latest", x.kept(), 3);
        Due.take(x, 0, 0, 5, 5);
        x.crash();
        Due.is("kept() after a crash", x.kept(), 3);
        x.read(0);
        Due.is("kept()", x.kept(), 3);
    }

    private static void notMixedWithWhatWasLost() {
        Due.sentence("Promise 14: Everything becomes what it was (what came since is gone)");
        StreamWindows x = Due.following0(1, 2, 2, 0);
        Due.take(x, 0, 0, 3, 1);
        x.keep();
        Due.take(x, 0, 1, 9, 2);
        Due.is("results()", x.results(), 2);
        x.arrive(Due.code(1, 0, 2), 4);
        x.crash();
        Due.is("read(1), another order than before", x.read(1), 0);
        Due.is("pending(0)", x.pending(0), 5);
        Due.is("read(0)", x.read(0), 2);
        Due.result("first", x, 0, 0, 0, 4, 2, 5, 1, 4);
        Due.result("second", x, 1, 0, 2, 6, 2, 5, 1, 4);
        Due.is("crash()", x.crash(), 0);
        Due.is("pending(0)", x.pending(0), 1);
    }
}
