/** Promise 6: position. */
public final class PositionTest {
    public static void main(String[] args) {
        sourceNotGood();
        nothingRead();
        onlyReadings();
        lateOnesToo();
        allTwenty();
        Due.end();
    }

    private static void sourceNotGood() {
        Due.sentence("Promise 6: source is not good: BAD");
        StreamWindows x = new StreamWindows(0, 1, 1, 0);
        for (int source = 0; source < 3; source++) {
            Due.take(x, source, 0, 3, 1);
        }
        for (int source : new int[] {Integer.MIN_VALUE, -2, -1, 3, 4, Integer.MAX_VALUE}) {
            Due.is("position(" + source + ")", x.position(source), StreamWindows.BAD);
        }
    }

    private static void nothingRead() {
        Due.sentence("Promise 6: How many events of a source were read (none)");
        StreamWindows x = new StreamWindows(0, 1, 1, 0);
        for (int source = 0; source < 3; source++) {
            Due.is("position(" + source + ")", x.position(source), 0);
            x.arrive(Due.code(source, 0, 3), 1);
            Due.is("one to read: position(" + source + ")", x.position(source), 0);
        }
    }

    private static void onlyReadings() {
        Due.sentence("Promise 6: How many events of a source were read");
        StreamWindows x = new StreamWindows(0, 1, 1, 0);
        for (int source = 0; source < 3; source++) {
            for (int n = 0; n < 5; n++) {
                x.arrive(Due.code(source, 0, n), 1);
            }
        }
        x.read(1);
        x.read(2);
        x.read(2);
        Due.is("position(0)", x.position(0), 0);
        Due.is("position(1)", x.position(1), 1);
        Due.is("position(2)", x.position(2), 2);
    }

    private static void lateOnesToo() {
        Due.sentence("Promise 6: How many events of a source were read (a late one)");
        StreamWindows x = Due.following0(0, 1, 1, 0);
        Due.take(x, 0, 0, 30, 1);
        Due.take(x, 2, 0, 3, 1);
        Due.is("late()", x.late(), 1);
        Due.is("position(2)", x.position(2), 1);
        Due.is("read(2): it is not to be read again", x.read(2), StreamWindows.NONE);
    }

    private static void allTwenty() {
        Due.sentence("Promise 6: How many events of a source were read (twenty)");
        for (int source = 0; source < 3; source++) {
            StreamWindows x = new StreamWindows(0, 1, 1, 0);
            for (int n = 0; n < 21; n++) {
                x.arrive(Due.code(source, 0, 30), 1);
            }
            x.readAll();
            Due.is("position(" + source + ")", x.position(source), 20);
        }
    }
}
