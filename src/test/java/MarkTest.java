/** Promise 7: mark, and what the terms say of it. */
public final class MarkTest {
    public static void main(String[] args) {
        atFirst();
        noneWasRead();
        greatestTime();
        thatWereRead();
        minusLateness();
        leastAndGreatest();
        leastOfSources();
        notOfIdleOnes();
        onlyIfGreater();
        afterEveryReading();
        whenIdleOrNot();
        Due.end();
    }

    private static void atFirst() {
        Due.sentence("Terms: THE MARK is a number, -1000 at first");
        for (int kind = 0; kind <= 2; kind++) {
            for (int lateness = 0; lateness <= 20; lateness += 20) {
                Due.is("mark()", new StreamWindows(kind, 8, 1, lateness).mark(), -1000);
            }
        }
    }

    private static void noneWasRead() {
        Due.sentence("Terms: -1000 if none was read");
        for (int source = 0; source < 3; source++) {
            StreamWindows x = new StreamWindows(0, 8, 1, 5);
            Due.take(x, (source + 1) % 3, 0, 20, 1);
            Due.take(x, (source + 2) % 3, 0, 63, 1);
            x.arrive(Due.code(source, 0, 40), 1);
            Due.is("source " + source + " read none: mark()", x.mark(), -1000);
            x.idle((source + 1) % 3, true);
            x.idle((source + 2) % 3, true);
            Due.is("it alone is not idle: mark()", x.mark(), -1000);
        }
    }

    private static void greatestTime() {
        Due.sentence("Terms: THE MARK OF A SOURCE is the greatest time of its events");
        for (int source = 0; source < 3; source++) {
            StreamWindows x = Due.following(source, 0, 8, 1, 5);
            Due.take(x, source, 0, 20, 1);
            Due.is("mark()", x.mark(), 15);
            Due.take(x, source, 1, 12, 1);
            Due.is("mark(), not by the latest", x.mark(), 15);
            Due.take(x, source, 2, 20, 1);
            Due.is("mark(), the same again", x.mark(), 15);
            Due.take(x, source, 3, 21, 1);
            Due.is("mark()", x.mark(), 16);
        }
        // The greatest stays known while another source holds the mark back.
        StreamWindows x = new StreamWindows(0, 8, 1, 5);
        x.idle(2, true);
        Due.take(x, 0, 0, 20, 1);
        Due.take(x, 0, 0, 12, 1);
        Due.is("source 1 read none: mark()", x.mark(), -1000);
        Due.take(x, 1, 0, 40, 1);
        Due.is("mark(), not by the latest of source 0", x.mark(), 15);
    }

    private static void thatWereRead() {
        Due.sentence("Terms: of its events that were read");
        StreamWindows x = Due.following0(0, 8, 1, 0);
        x.arrive(Due.code(0, 0, 5), 1);
        x.arrive(Due.code(0, 0, 50), 1);
        x.arrive(Due.code(1, 0, 60), 1);
        x.read(0);
        Due.is("mark()", x.mark(), 5);
        x.read(1);
        Due.is("mark(), not by another source", x.mark(), 5);
        x.read(0);
        Due.is("mark()", x.mark(), 50);
    }

    private static void minusLateness() {
        Due.sentence("Terms: minus L");
        for (int lateness = 0; lateness <= 20; lateness++) {
            for (int time = 0; time < 64; time += 7) {
                StreamWindows x = Due.following0(1, 3, 2, lateness);
                Due.take(x, 0, 0, time, 1);
                Due.is("L " + lateness + ", time " + time + ": mark()", x.mark(), time - lateness);
            }
        }
    }

    private static void leastAndGreatest() {
        Due.sentence("Terms: TIME 0 .. 63, minus L (its edges)");
        StreamWindows least = Due.following0(2, 1, 1, 20);
        Due.take(least, 0, 0, 0, 1);
        Due.is("mark() below 0", least.mark(), -20);
        Due.is("which closes nothing: open(0)", least.open(0), 1);
        StreamWindows greatest = Due.following0(0, 1, 1, 0);
        Due.take(greatest, 0, 0, 63, 1);
        Due.is("mark()", greatest.mark(), 63);
        Due.is("which closes nothing: open(0)", greatest.open(0), 1);
        StreamWindows zero = Due.following0(0, 1, 1, 0);
        Due.take(zero, 0, 0, 0, 1);
        Due.is("mark()", zero.mark(), 0);
    }

    private static void leastOfSources() {
        Due.sentence("Terms: The mark becomes the least mark of the sources that are not idle");
        for (int source = 0; source < 3; source++) {
            StreamWindows x = new StreamWindows(0, 8, 1, 5);
            Due.take(x, source, 0, 3, 1);
            Due.take(x, (source + 1) % 3, 0, 20, 1);
            Due.take(x, (source + 2) % 3, 0, 30, 1);
            Due.is("source " + source + " is least: mark()", x.mark(), -2);
            Due.take(x, source, 0, 12, 1);
            Due.is("it is least still: mark()", x.mark(), 7);
            Due.take(x, source, 0, 40, 1);
            Due.is("the next one is: mark()", x.mark(), 15);
        }
    }

    private static void notOfIdleOnes() {
        Due.sentence("Terms: of the sources that are not idle");
        for (int source = 0; source < 3; source++) {
            StreamWindows x = new StreamWindows(0, 8, 1, 0);
            x.idle(source, true);
            Due.take(x, source, 0, 1, 1);
            Due.take(x, (source + 1) % 3, 0, 20, 1);
            Due.take(x, (source + 2) % 3, 0, 30, 1);
            Due.is("source " + source + " is idle: mark()", x.mark(), 20);
        }
    }

    private static void onlyIfGreater() {
        Due.sentence("Terms: if this is greater than it was");
        StreamWindows x = Due.following0(0, 1, 1, 0);
        Due.take(x, 0, 0, 30, 1);
        Due.take(x, 1, 0, 20, 1);
        x.idle(1, false);
        Due.is("a slower source is idle no more: mark()", x.mark(), 30);
        Due.take(x, 1, 0, 29, 1);
        Due.is("one less than it was: mark()", x.mark(), 30);
        Due.is("late()", x.late(), 2);
        Due.take(x, 0, 0, 40, 1);
        Due.is("mark()", x.mark(), 30);
        Due.take(x, 1, 0, 30, 1);
        Due.is("the same: mark()", x.mark(), 30);
        Due.take(x, 1, 0, 31, 1);
        Due.is("one more: mark()", x.mark(), 31);
    }

    private static void afterEveryReading() {
        Due.sentence("Terms: It is looked at after every reading");
        StreamWindows x = Due.following0(0, 1, 1, 0);
        for (int time = 1; time <= 20; time++) {
            x.arrive(Due.code(0, 0, time), 1);
        }
        for (int time = 1; time <= 10; time++) {
            x.read(0);
            Due.is("read " + time + ": mark()", x.mark(), time);
        }
        x.readAll();
        Due.is("readAll(): mark()", x.mark(), 20);
        Due.is("each reading closed one: results()", x.results(), 19);

        // Within one call too: the mark that the first reading made is the one of the second.
        StreamWindows y = Due.following0(0, 1, 1, 0);
        y.arrive(Due.code(0, 0, 9), 1);
        y.arrive(Due.code(0, 0, 3), 1);
        y.readAll();
        Due.is("late()", y.late(), 1);
    }

    private static void whenIdleOrNot() {
        Due.sentence("Terms: and when a source becomes idle or not");
        StreamWindows x = new StreamWindows(0, 1, 1, 0);
        Due.take(x, 0, 0, 20, 1);
        Due.take(x, 1, 0, 10, 1);
        x.idle(2, true);
        Due.is("idle(2, true): mark()", x.mark(), 10);
        x.idle(1, true);
        Due.is("idle(1, true): mark()", x.mark(), 20);
        x.idle(0, true);
        Due.take(x, 0, 0, 40, 1);
        Due.is("all are idle: mark()", x.mark(), 20);
        x.idle(0, false);
        Due.is("idle(0, false): mark()", x.mark(), 40);
    }
}
