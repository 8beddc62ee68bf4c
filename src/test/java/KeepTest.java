/** Promises 13, 14 and 15: keep, crash and kept. */
public final class KeepTest {
    public static void main(String[] args) {
        crashWithoutKeeping();
        for (int kind = 0; kind <= 2; kind++) {
            everythingComesBack(kind);
        }
        keepingAgain();
        sameAnswersAfterCrash();
        Due.end();
    }

    private static void crashWithoutKeeping() {
        StreamWindows x = Due.following0(0, 2, 1, 0);
        Due.take(x, 0, 0, 5, 1);
        Due.take(x, 0, 0, 9, 2);
        Due.take(x, 0, 0, 3, 4);
        Due.is("results()", x.results(), 1);
        Due.is("late()", x.late(), 1);
        Due.is("kept()", x.kept(), 0);
        Due.is("crash()", x.crash(), 0);
        Due.is("results()", x.results(), 0);
        Due.is("result(0, 0)", x.result(0, 0), StreamWindows.NONE);
        Due.is("late()", x.late(), 0);
        Due.is("mark()", x.mark(), -1000);
        Due.is("position(0)", x.position(0), 0);
        Due.is("open(0)", x.open(0), 0);
        Due.is("pending(0)", x.pending(0), 0);
        Due.is("digest()", x.digest(), 0);
        Due.is("kept()", x.kept(), 0);
        Due.is("arrive: the events stayed", x.arrive(Due.code(0, 0, 1), 1), 4);
        Due.is("readAll()", x.readAll(), 4);
        Due.is("no source is idle: mark()", x.mark(), -1000);
        Due.is("pending(0)", x.pending(0), 1);
    }

    private static void everythingComesBack(int kind) {
        String name = "kind " + kind;
        StreamWindows x = Due.following0(kind, 4, 1, 0);
        Due.take(x, 0, 0, 4, 1);
        Due.take(x, 0, 1, 12, 2);
        Due.take(x, 0, 1, 1, 3);
        Due.take(x, 2, 2, 13, 4);
        Due.is(name + ": keep()", x.keep(), 1);
        Due.is(name + ": kept()", x.kept(), 1);
        int digest = x.digest();
        x.idle(2, false);
        x.idle(0, true);
        Due.take(x, 0, 1, 13, 8);
        Due.take(x, 2, 1, 12, 8);
        Due.take(x, 2, 3, 40, 8);
        Due.take(x, 1, 3, 2, 8);
        Due.is(name + ": mark()", x.mark(), 40);
        Due.is(name + ": results()", x.results(), 3);
        Due.is(name + ": late()", x.late(), 2);
        Due.is(name + ": kept() is that of the keeping", x.kept(), 1);
        Due.is(name + ": crash()", x.crash(), 1);
        Due.is(name + ": results()", x.results(), 1);
        Due.is(name + ": digest()", x.digest(), digest);
        Due.is(name + ": kept()", x.kept(), 1);
        Due.is(name + ": late()", x.late(), 1);
        Due.is(name + ": mark()", x.mark(), 12);
        Due.is(name + ": position(0)", x.position(0), 3);
        Due.is(name + ": position(1)", x.position(1), 0);
        Due.is(name + ": position(2)", x.position(2), 1);
        Due.is(name + ": open(1)", x.open(1), 1);
        Due.is(name + ": pending(1)", x.pending(1), 2);
        Due.is(name + ": open(2)", x.open(2), 1);
        Due.is(name + ": pending(2)", x.pending(2), 4);
        Due.is(name + ": open(3)", x.open(3), 0);
        Due.is(name + ": readAll()", x.readAll(), 4);
        Due.is(name + ": source 0 is not idle, source 2 is: mark()", x.mark(), 13);
        Due.is(name + ": arrive, source 2", x.arrive(Due.code(2, 0, 0), 0), 4);
    }

    private static void keepingAgain() {
        StreamWindows x = Due.following0(0, 1, 1, 0);
        Due.is("keep() of nothing", x.keep(), 0);
        Due.take(x, 0, 0, 1, 1);
        Due.take(x, 0, 0, 2, 2);
        Due.is("keep()", x.keep(), 1);
        Due.take(x, 0, 0, 3, 3);
        Due.take(x, 0, 0, 4, 4);
        Due.is("kept()", x.kept(), 1);
        Due.is("keep(), the latest", x.keep(), 3);
        Due.take(x, 0, 0, 5, 5);
        Due.is("kept()", x.kept(), 3);
        Due.is("crash()", x.crash(), 3);
        Due.is("crash() again", x.crash(), 3);
        Due.is("position(0)", x.position(0), 4);
        Due.is("read(0)", x.read(0), 1);
        Due.is("crash() once more", x.crash(), 3);
        Due.is("read(0)", x.read(0), 1);
        Due.is("results()", x.results(), 4);
        Due.result("the result after the crash", x, 3, 0, 4, 5, 1, 4, 4, 4);
    }

    /** What comes after a crash may differ from what was before, and must not mix with it. */
    private static void sameAnswersAfterCrash() {
        StreamWindows x = Due.following0(1, 2, 2, 0);
        Due.take(x, 0, 0, 3, 1);
        x.keep();
        Due.take(x, 0, 1, 9, 2);
        Due.is("results()", x.results(), 2);
        x.arrive(Due.code(1, 0, 2), 4);
        x.crash();
        Due.is("read(1), counted once", x.read(1), 0);
        Due.is("pending(0)", x.pending(0), 5);
        Due.is("read(0)", x.read(0), 2);
        Due.result("first", x, 0, 0, 0, 4, 2, 5, 1, 4);
        Due.result("second", x, 1, 0, 2, 6, 2, 5, 1, 4);
        Due.is("crash()", x.crash(), 0);
        Due.is("pending(0)", x.pending(0), 1);
    }
}
