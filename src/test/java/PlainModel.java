import java.util.ArrayList;
import java.util.Comparator;
import java.util.List;
import java.util.TreeSet;

/**
 * The document's terms as slowly and as literally as they can be written, to compare with: it holds
 * sets of events instead of sums, and comes through a crash by doing again what was done up to the
 * latest keeping.
 */
final class PlainModel {
    private record Event(int key, int time, int value) {
    }

    private record Result(int key, int start, int end, List<Event> events) {
    }

    /** A reading of a source, or (flag 0 or 1) its becoming idle or not. */
    private record Deed(int source, int flag) {
    }

    private static final int READING = -1;

    private final int kind;
    private final int d;
    private final int m;
    private final int l;
    private final List<List<Event>> sources =
            List.of(new ArrayList<>(), new ArrayList<>(), new ArrayList<>());
    private final List<Deed> deeds = new ArrayList<>();
    private int keptDeeds = 0;
    private int keptResults = 0;

    private int[] position;
    private boolean[] idle;
    private int mark;
    private int late;
    private List<Event> counted;
    private List<List<Event>> sessions;
    private List<Result> results;

    PlainModel(int kind, int width, int many, int lateness) {
        this.kind = Math.min(2, Math.max(0, kind));
        d = Math.min(8, Math.max(1, width));
        m = Math.min(4, Math.max(1, many));
        l = Math.min(20, Math.max(0, lateness));
        begin();
    }

    private void begin() {
        position = new int[3];
        idle = new boolean[3];
        mark = -1000;
        late = 0;
        counted = new ArrayList<>();
        sessions = new ArrayList<>();
        results = new ArrayList<>();
    }

    int arrive(int code, int value) {
        if (code < 0 || code > 767 || value < -50 || value > 50) {
            return -2001;
        }
        List<Event> source = sources.get(code / 64 / 4);
        if (source.size() == 20) {
            return -2003;
        }
        source.add(new Event(code / 64 % 4, code % 64, value));
        return source.size();
    }

    int read(int source) {
        if (source < 0 || source > 2) {
            return -2001;
        }
        if (position[source] == sources.get(source).size()) {
            return -2002;
        }
        int before = results.size();
        deeds.add(new Deed(source, READING));
        carryOut(new Deed(source, READING));
        return results.size() - before;
    }

    int readAll() {
        int count = 0;
        while (true) {
            int[] left = new int[3];
            for (int s = 0; s < 3; s++) {
                left[s] = sources.get(s).size() - position[s];
            }
            int most = Math.max(left[0], Math.max(left[1], left[2]));
            if (most == 0) {
                return count;
            }
            read(left[0] == most ? 0 : left[1] == most ? 1 : 2);
            count++;
        }
    }

    int idle(int source, boolean flag) {
        if (source < 0 || source > 2) {
            return -2001;
        }
        int before = results.size();
        Deed deed = new Deed(source, flag ? 1 : 0);
        deeds.add(deed);
        carryOut(deed);
        return results.size() - before;
    }

    int position(int source) {
        return source < 0 || source > 2 ? -2001 : position[source];
    }

    int mark() {
        return mark;
    }

    int results() {
        return results.size();
    }

    int result(int i, int what) {
        if (i < 0 || i >= results.size() || what < 0 || what > 6) {
            return -2002;
        }
        Result r = results.get(i);
        return switch (what) {
            case 0 -> r.key;
            case 1 -> r.start;
            case 2 -> r.end;
            case 3 -> r.events.size();
            case 4 -> sum(r.events);
            case 5 -> r.events.stream().mapToInt(Event::value).min().getAsInt();
            default -> r.events.stream().mapToInt(Event::value).max().getAsInt();
        };
    }

    int late() {
        return late;
    }

    int open(int key) {
        return key < 0 || key > 3 ? -2001 : openOf(key).size();
    }

    int pending(int key) {
        return openOf(key).stream().min(Comparator.comparingInt(Result::start))
                .map(r -> sum(r.events)).orElse(0);
    }

    int keep() {
        keptDeeds = deeds.size();
        keptResults = results.size();
        return keptResults;
    }

    int crash() {
        deeds.subList(keptDeeds, deeds.size()).clear();
        begin();
        deeds.forEach(this::carryOut);
        return results.size();
    }

    int kept() {
        return keptResults;
    }

    int digest() {
        int[] times = {1, 3, 5, 7, 11, 13, 17};
        int total = 0;
        for (int i = 0; i < results.size(); i++) {
            for (int what = 0; what < 7; what++) {
                total += (i + 1) * times[what] * result(i, what);
            }
        }
        return total;
    }

    private void carryOut(Deed deed) {
        if (deed.flag == READING) {
            Event event = sources.get(deed.source).get(position[deed.source]);
            position[deed.source]++;
            if (kind == 2) {
                readForSessions(event);
            } else {
                readForWindows(event);
            }
        } else {
            idle[deed.source] = deed.flag == 1;
        }
        int markBefore = mark;
        lookAtMark();
        close(markBefore);
    }

    /**
     * An event counts for all windows that it is in and that were not closed when it was read. Which
     * these were is kept by the results alone: a window that is open now was open then.
     */
    private void readForWindows(Event event) {
        boolean counts = false;
        for (int n = -70; n <= 70; n++) {
            counts |= isIn(event, n) && endOf(n) > mark;
        }
        if (counts) {
            counted.add(event);
        } else {
            late++;
        }
    }

    private void readForSessions(Event event) {
        List<List<Event>> touched = new ArrayList<>();
        for (List<Event> session : sessions) {
            if (session.get(0).key == event.key && event.time >= leastTime(session) - d
                    && event.time <= greatestTime(session) + d) {
                touched.add(session);
            }
        }
        if (touched.isEmpty() && event.time + d <= mark) {
            late++;
            return;
        }
        List<Event> joined = new ArrayList<>(List.of(event));
        touched.forEach(joined::addAll);
        // By identity: two sessions with equal events are two sessions.
        sessions.removeIf(session -> touched.stream().anyMatch(t -> t == session));
        sessions.add(joined);
    }

    private void lookAtMark() {
        Integer least = null;
        for (int s = 0; s < 3; s++) {
            if (idle[s]) {
                continue;
            }
            int own = sources.get(s).subList(0, position[s]).stream()
                    .mapToInt(e -> e.time - l).max().orElse(-1000);
            least = least == null ? own : Math.min(least, own);
        }
        if (least != null) {
            mark = Math.max(mark, least);
        }
    }

    private void close(int markBefore) {
        List<Result> closing = new ArrayList<>();
        for (int key = 0; key < 4; key++) {
            if (kind == 2) {
                for (Result r : sessionsOf(key)) {
                    if (r.end <= mark) {
                        closing.add(r);
                    }
                }
            } else {
                closing.addAll(windowsBetween(key, markBefore, mark));
            }
        }
        sessions.removeIf(session -> greatestTime(session) + d <= mark);
        closing.sort(Comparator.comparingInt(Result::end).thenComparingInt(Result::key)
                .thenComparingInt(Result::start));
        results.addAll(closing);
    }

    private List<Result> openOf(int key) {
        return kind == 2 ? sessionsOf(key) : windowsBetween(key, mark, Integer.MAX_VALUE);
    }

    private List<Result> sessionsOf(int key) {
        List<Result> found = new ArrayList<>();
        for (List<Event> session : sessions) {
            if (session.get(0).key == key) {
                found.add(new Result(key, leastTime(session), greatestTime(session) + d, session));
            }
        }
        return found;
    }

    /** The windows with events of a key whose ends are above one number, and at another or less. */
    private List<Result> windowsBetween(int key, int above, int atMost) {
        TreeSet<Integer> numbers = new TreeSet<>();
        for (int n = -70; n <= 70; n++) {
            if (endOf(n) > above && endOf(n) <= atMost) {
                numbers.add(n);
            }
        }
        List<Result> found = new ArrayList<>();
        for (int n : numbers) {
            List<Event> inside = new ArrayList<>();
            for (Event event : counted) {
                if (event.key == key && isIn(event, n)) {
                    inside.add(event);
                }
            }
            if (!inside.isEmpty()) {
                found.add(new Result(key, n * d, endOf(n), inside));
            }
        }
        return found;
    }

    private boolean isIn(Event event, int n) {
        return event.time >= n * d && event.time < endOf(n);
    }

    private int endOf(int n) {
        return n * d + (kind == 0 ? d : d * m);
    }

    private static int leastTime(List<Event> events) {
        return events.stream().mapToInt(Event::time).min().getAsInt();
    }

    private static int greatestTime(List<Event> events) {
        return events.stream().mapToInt(Event::time).max().getAsInt();
    }

    private static int sum(List<Event> events) {
        return events.stream().mapToInt(Event::value).sum();
    }
}
