/** Promise 6: position. */
public final class PositionTest {
    public static void main(String[] args) {
        StreamWindows x = Due.following0(0, 1, 1, 0);
        for (int source : new int[] {-1, 3, Integer.MIN_VALUE, Integer.MAX_VALUE}) {
            Due.is("position(" + source + ")", x.position(source), StreamWindows.BAD);
        }
        Due.take(x, 0, 0, 30, 1);
        Due.is("position(0)", x.position(0), 1);
        Due.is("position(1)", x.position(1), 0);
        Due.is("position(2)", x.position(2), 0);
        Due.take(x, 2, 0, 3, 1);
        Due.is("late()", x.late(), 1);
        Due.is("position(2): a late event was read too", x.position(2), 1);
        x.arrive(Due.code(1, 0, 3), 1);
        Due.is("position(1) before reading", x.position(1), 0);
        for (int n = 0; n < 19; n++) {
            x.arrive(Due.code(0, 0, 30), 1);
        }
        x.readAll();
        Due.is("position(0) of twenty", x.position(0), 20);
        Due.is("position(1)", x.position(1), 1);
        Due.end();
    }
}
