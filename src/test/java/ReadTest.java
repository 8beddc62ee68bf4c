/** Promise 3: read. */
public final class ReadTest {
    public static void main(String[] args) {
        StreamWindows x = Due.following0(0, 5, 1, 0);
        for (int source : new int[] {-1, 3, Integer.MIN_VALUE, Integer.MAX_VALUE}) {
            Due.is("read(" + source + ")", x.read(source), StreamWindows.BAD);
        }
        Due.is("read(0) of nothing", x.read(0), StreamWindows.NONE);
        x.arrive(Due.code(0, 0, 1), 10);
        x.arrive(Due.code(0, 3, 2), 20);
        x.arrive(Due.code(0, 1, 4), 30);
        x.arrive(Due.code(0, 0, 5), 40);
        x.arrive(Due.code(1, 0, 7), 50);
        Due.is("read(2), whose events are none", x.read(2), StreamWindows.NONE);
        Due.is("first read(0)", x.read(0), 0);
        Due.is("pending(0)", x.pending(0), 10);
        Due.is("second read(0)", x.read(0), 0);
        Due.is("third read(0)", x.read(0), 0);
        Due.is("fourth read(0), which closes three keys", x.read(0), 3);
        Due.is("fifth read(0)", x.read(0), StreamWindows.NONE);
        Due.is("position(0) after a refused read", x.position(0), 4);
        Due.is("read(1), an idle source", x.read(1), 0);
        Due.is("pending(0)", x.pending(0), 90);
        Due.take(x, 0, 2, 30, 1);
        Due.is("results()", x.results(), 4);
        Due.is("new results alone are answered", Due.take(x, 0, 2, 40, 1), 1);
        Due.end();
    }
}
