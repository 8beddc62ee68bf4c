import java.io.IOException;
import java.nio.file.Files;
import java.nio.file.Path;
import java.util.ArrayList;
import java.util.List;

/**
 * The example of README.md: its lines are those that are called here, in this order, and the answer
 * that a line's remark begins with is the one that is given.
 */
public final class ReadmeTest {
    private static List<String> lines;
    private static int next = 0;

    public static void main(String[] args) throws IOException {
        lines = exampleLines(Path.of("README.md"));
        line("StreamWindows x = new StreamWindows(0, 4, 1, 0);");
        StreamWindows x = new StreamWindows(0, 4, 1, 0);
        answer("x.idle(1, true);", x.idle(1, true));
        answer("x.idle(2, true);", x.idle(2, true));
        answer("x.arrive(64 * (4 * 0 + 3) + 5, 10);", x.arrive(64 * (4 * 0 + 3) + 5, 10));
        answer("x.arrive(64 * (4 * 0 + 1) + 9, 20);", x.arrive(64 * (4 * 0 + 1) + 9, 20));
        answer("x.read(0);", x.read(0));
        answer("x.pending(3);", x.pending(3));
        answer("x.keep();", x.keep());
        answer("x.read(0);", x.read(0));
        answer("x.mark();", x.mark());
        answer("x.result(0, 0);", x.result(0, 0));
        answer("x.result(0, 1);", x.result(0, 1));
        answer("x.result(0, 4);", x.result(0, 4));
        answer("x.read(0);", x.read(0));
        answer("x.crash();", x.crash());
        answer("x.readAll();", x.readAll());
        Due.is("lines of the example that are not called here", lines.size() - next, 0);
        Due.end();
    }

    /** The lines of the first block of Java, without those that are remarks alone. */
    private static List<String> exampleLines(Path readme) throws IOException {
        List<String> found = new ArrayList<>();
        boolean inside = false;
        for (String text : Files.readAllLines(readme)) {
            if (text.equals("```java")) {
                inside = true;
            } else if (inside && text.equals("```")) {
                break;
            } else if (inside && !text.isBlank() && !text.startsWith("//")) {
                found.add(text);
            }
        }
        return found;
    }

    private static String line(String code) {
        String text = next < lines.size() ? lines.get(next) : "";
        next++;
        Due.sentence("line " + next + " of the example: " + text);
        Due.is("is " + code, text.startsWith(code) ? 1 : 0, 1);
        return text.contains("//") ? text.substring(text.indexOf("//") + 2).strip() : "";
    }

    private static void answer(String code, int got) {
        String remark = line(code);
        boolean told = remark.equals("" + got) || remark.startsWith(got + ":");
        Due.is("the remark begins with " + got, told ? 1 : 0, 1);
    }
}
