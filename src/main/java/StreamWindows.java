/**
 * Sums up events by windows of time as they come in, out of order, from three sources, and comes
 * through crashes.
 */
public final class StreamWindows {
    public static final int BAD = -2001;
    public static final int NONE = -2002;
    public static final int FULL = -2003;

    private static final int SOURCES = 3;
    private static final int KEYS = 4;
    private static final int TIMES = 64;
    private static final int CODES_OF_SOURCE = 256;
    private static final int CODES = 768;
    private static final int GREATEST_VALUE = 50;
    private static final int SOURCE_ROOM = 20;
    private static final int EVENT_ROOM = 60;
    private static final int FIRST_MARK = -1000;
    private static final int SESSIONS = 2;

    // Sixty events count for at most four windows each, so no more rows than this are ever needed;
    // the room is looked at all the same before a row is written.
    private static final int ROW_ROOM = 240;
    private static final int CELL_ROOM = 1680;

    // The columns of a row, numbered as result() numbers what it is asked for.
    private static final int KEY = 0;
    private static final int START = 1;
    private static final int END = 2;
    private static final int EVENTS = 3;
    private static final int SUM = 4;
    private static final int LEAST = 5;
    private static final int GREATEST = 6;
    private static final int COLUMNS = 7;

    private final int kind;
    private final int width;
    private final int windowsOfEvent;
    private final int lateness;

    // Source s has its events at s * SOURCE_ROOM and after.
    private final int[] eventKey = new int[EVENT_ROOM];
    private final int[] eventTime = new int[EVENT_ROOM];
    private final int[] eventValue = new int[EVENT_ROOM];
    private final int[] arrived = new int[SOURCES];

    private final int[] taken = new int[SOURCES];
    private final boolean[] isIdle = new boolean[SOURCES];
    private int markNow = FIRST_MARK;
    private int lateCount = 0;

    // A row for each open session, or for each key of each window that has not closed.
    private final int[] openCells = new int[CELL_ROOM];
    private int openRows = 0;
    private final int[] resultCells = new int[CELL_ROOM];
    private int resultRows = 0;

    // What is kept begins as the beginning, so that a crash without a keeping needs no other way.
    private final int[] keptTaken = new int[SOURCES];
    private final boolean[] keptIdle = new boolean[SOURCES];
    private int keptMark = FIRST_MARK;
    private int keptLate = 0;
    private final int[] keptCells = new int[CELL_ROOM];
    private int keptRows = 0;
    // Results are only ever appended, so their number is enough to bring the kept ones back.
    private int keptResultRows = 0;

    public StreamWindows(int kind, int width, int many, int lateness) {
        this.kind = clamp(kind, 0, SESSIONS);
        this.width = clamp(width, 1, 8);
        this.windowsOfEvent = this.kind == 1 ? clamp(many, 1, 4) : 1;
        this.lateness = clamp(lateness, 0, 20);
    }

    public int arrive(int code, int value) {
        if (code < 0 || code >= CODES || value < -GREATEST_VALUE || value > GREATEST_VALUE) {
            return BAD;
        }
        int source = code / CODES_OF_SOURCE;
        if (arrived[source] >= SOURCE_ROOM) {
            return FULL;
        }
        int event = source * SOURCE_ROOM + arrived[source];
        eventKey[event] = code / TIMES % KEYS;
        eventTime[event] = code % TIMES;
        eventValue[event] = value;
        arrived[source]++;
        return arrived[source];
    }

    public int read(int source) {
        if (!isSource(source)) {
            return BAD;
        }
        if (unread(source) == 0) {
            return NONE;
        }
        int before = resultRows;
        readNext(source);
        return resultRows - before;
    }

    public int readAll() {
        int count = 0;
        for (int i = 0; i < EVENT_ROOM; i++) {
            int source = sourceWithMostUnread();
            if (unread(source) == 0) {
                break;
            }
            readNext(source);
            count++;
        }
        return count;
    }

    public int idle(int source, boolean flag) {
        if (!isSource(source)) {
            return BAD;
        }
        int before = resultRows;
        isIdle[source] = flag;
        raiseMark();
        closeDueRows();
        return resultRows - before;
    }

    public int position(int source) {
        return isSource(source) ? taken[source] : BAD;
    }

    public int mark() {
        return markNow;
    }

    public int results() {
        return resultRows;
    }

    public int result(int i, int what) {
        if (i < 0 || i >= resultRows || what < 0 || what >= COLUMNS) {
            return NONE;
        }
        return resultCells[i * COLUMNS + what];
    }

    public int late() {
        return lateCount;
    }

    public int open(int key) {
        if (!isKey(key)) {
            return BAD;
        }
        int count = 0;
        for (int row = 0; row < openRows; row++) {
            if (openCells[row * COLUMNS + KEY] == key) {
                count++;
            }
        }
        return count;
    }

    public int pending(int key) {
        // A key that is not good has no rows, and so gets the 0 that is due.
        int earliest = -1;
        for (int row = 0; row < openRows; row++) {
            int at = row * COLUMNS;
            if (openCells[at + KEY] == key
                    && (earliest < 0 || openCells[at + START] < openCells[earliest + START])) {
                earliest = at;
            }
        }
        return earliest < 0 ? 0 : openCells[earliest + SUM];
    }

    public int keep() {
        for (int source = 0; source < SOURCES; source++) {
            keptTaken[source] = taken[source];
            keptIdle[source] = isIdle[source];
        }
        for (int cell = 0; cell < CELL_ROOM; cell++) {
            keptCells[cell] = openCells[cell];
        }
        keptRows = openRows;
        keptMark = markNow;
        keptLate = lateCount;
        keptResultRows = resultRows;
        return keptResultRows;
    }

    public int crash() {
        for (int source = 0; source < SOURCES; source++) {
            taken[source] = keptTaken[source];
            isIdle[source] = keptIdle[source];
        }
        for (int cell = 0; cell < CELL_ROOM; cell++) {
            openCells[cell] = keptCells[cell];
        }
        openRows = keptRows;
        markNow = keptMark;
        lateCount = keptLate;
        resultRows = keptResultRows;
        return resultRows;
    }

    public int kept() {
        return keptResultRows;
    }

    public int digest() {
        int total = 0;
        for (int row = 0; row < resultRows; row++) {
            int at = row * COLUMNS;
            int one = resultCells[at + KEY]
                    + 3 * resultCells[at + START]
                    + 5 * resultCells[at + END]
                    + 7 * resultCells[at + EVENTS]
                    + 11 * resultCells[at + SUM]
                    + 13 * resultCells[at + LEAST]
                    + 17 * resultCells[at + GREATEST];
            total += (row + 1) * one;
        }
        return total;
    }

    private static int clamp(int number, int least, int greatest) {
        if (number < least) {
            return least;
        }
        return number > greatest ? greatest : number;
    }

    private static boolean isSource(int source) {
        return source >= 0 && source < SOURCES;
    }

    private static boolean isKey(int key) {
        return key >= 0 && key < KEYS;
    }

    private int unread(int source) {
        return arrived[source] - taken[source];
    }

    private int sourceWithMostUnread() {
        int most = 0;
        for (int source = 1; source < SOURCES; source++) {
            if (unread(source) > unread(most)) {
                most = source;
            }
        }
        return most;
    }

    private void readNext(int source) {
        int event = source * SOURCE_ROOM + taken[source];
        taken[source]++;
        if (kind == SESSIONS) {
            countForSession(eventKey[event], eventTime[event], eventValue[event]);
        } else {
            countForWindows(eventKey[event], eventTime[event], eventValue[event]);
        }
        raiseMark();
        closeDueRows();
    }

    private void countForWindows(int key, int time, int value) {
        int latestStart = time - time % width;
        boolean counted = false;
        for (int back = windowsOfEvent - 1; back >= 0; back--) {
            int start = latestStart - back * width;
            int end = start + width * windowsOfEvent;
            if (end > markNow) {
                countForWindow(key, start, end, value);
                counted = true;
            }
        }
        if (!counted) {
            lateCount++;
        }
    }

    private void countForWindow(int key, int start, int end, int value) {
        for (int row = 0; row < openRows; row++) {
            int at = row * COLUMNS;
            if (openCells[at + KEY] == key && openCells[at + START] == start) {
                addToRow(row, 1, value, value, value);
                return;
            }
        }
        openRow(key, start, end, value);
    }

    private void countForSession(int key, int time, int value) {
        int home = firstTouched(key, time);
        if (home >= 0) {
            joinTouched(home, key, time);
            addToRow(home, 1, value, value, value);
            stretchRow(home, time, time + width);
        } else if (time + width <= markNow) {
            lateCount++;
        } else {
            openRow(key, time, time + width, value);
        }
    }

    private int firstTouched(int key, int time) {
        for (int row = 0; row < openRows; row++) {
            if (touches(row, key, time)) {
                return row;
            }
        }
        return -1;
    }

    private boolean touches(int row, int key, int time) {
        int at = row * COLUMNS;
        // The end of a session is its greatest time plus the width already.
        return openCells[at + KEY] == key
                && time >= openCells[at + START] - width
                && time <= openCells[at + END];
    }

    private void joinTouched(int home, int key, int time) {
        // From the last row down, because a removed row's place is taken by the last one, which
        // has then been looked at.
        for (int row = openRows - 1; row > home; row--) {
            if (touches(row, key, time)) {
                int at = row * COLUMNS;
                addToRow(home, openCells[at + EVENTS], openCells[at + SUM], openCells[at + LEAST],
                        openCells[at + GREATEST]);
                stretchRow(home, openCells[at + START], openCells[at + END]);
                removeRow(row);
            }
        }
    }

    private void openRow(int key, int start, int end, int value) {
        if (openRows >= ROW_ROOM) {
            return;
        }
        int at = openRows * COLUMNS;
        openCells[at + KEY] = key;
        openCells[at + START] = start;
        openCells[at + END] = end;
        openCells[at + EVENTS] = 1;
        openCells[at + SUM] = value;
        openCells[at + LEAST] = value;
        openCells[at + GREATEST] = value;
        openRows++;
    }

    private void addToRow(int row, int events, int sum, int least, int greatest) {
        int at = row * COLUMNS;
        openCells[at + EVENTS] += events;
        openCells[at + SUM] += sum;
        if (least < openCells[at + LEAST]) {
            openCells[at + LEAST] = least;
        }
        if (greatest > openCells[at + GREATEST]) {
            openCells[at + GREATEST] = greatest;
        }
    }

    private void stretchRow(int row, int start, int end) {
        int at = row * COLUMNS;
        if (start < openCells[at + START]) {
            openCells[at + START] = start;
        }
        if (end > openCells[at + END]) {
            openCells[at + END] = end;
        }
    }

    private void removeRow(int row) {
        int last = openRows - 1;
        for (int column = 0; column < COLUMNS; column++) {
            openCells[row * COLUMNS + column] = openCells[last * COLUMNS + column];
        }
        openRows = last;
    }

    private void raiseMark() {
        int least = leastMarkOfSources();
        if (least > markNow) {
            markNow = least;
        }
    }

    // If all sources are idle this is the first mark, which the mark is never below.
    private int leastMarkOfSources() {
        boolean found = false;
        int least = FIRST_MARK;
        for (int source = 0; source < SOURCES; source++) {
            if (!isIdle[source]) {
                int own = markOfSource(source);
                if (!found || own < least) {
                    least = own;
                    found = true;
                }
            }
        }
        return least;
    }

    private int markOfSource(int source) {
        int greatest = FIRST_MARK;
        for (int i = 0; i < taken[source]; i++) {
            int own = eventTime[source * SOURCE_ROOM + i] - lateness;
            if (own > greatest) {
                greatest = own;
            }
        }
        return greatest;
    }

    private void closeDueRows() {
        for (int closed = 0; closed < ROW_ROOM; closed++) {
            int row = firstDueRow();
            if (row < 0) {
                break;
            }
            appendResult(row);
            removeRow(row);
        }
    }

    private int firstDueRow() {
        int first = -1;
        for (int row = 0; row < openRows; row++) {
            boolean due = openCells[row * COLUMNS + END] <= markNow;
            if (due && (first < 0 || closesBefore(row, first))) {
                first = row;
            }
        }
        return first;
    }

    private boolean closesBefore(int row, int other) {
        int at = row * COLUMNS;
        int otherAt = other * COLUMNS;
        if (openCells[at + END] != openCells[otherAt + END]) {
            return openCells[at + END] < openCells[otherAt + END];
        }
        if (openCells[at + KEY] != openCells[otherAt + KEY]) {
            return openCells[at + KEY] < openCells[otherAt + KEY];
        }
        return openCells[at + START] < openCells[otherAt + START];
    }

    private void appendResult(int row) {
        if (resultRows >= ROW_ROOM) {
            return;
        }
        for (int column = 0; column < COLUMNS; column++) {
            resultCells[resultRows * COLUMNS + column] = openCells[row * COLUMNS + column];
        }
        resultRows++;
    }
}
