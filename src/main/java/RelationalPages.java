/** A small database: three tables with transactions, breakdowns, indexes, selections and joins. */
public final class RelationalPages {
    public static final int BAD = -1000;
    public static final int FULL = -2000;

    private static final int TABLES = 3;
    private static final int COLUMNS = 3;
    private static final int MAX_ROWS = 24;
    private static final int MAX_CHANGES = 30;
    private static final int LEAST = -99;
    private static final int GREATEST = 99;
    private static final int CELLS = TABLES * MAX_ROWS * COLUMNS;
    private static final int RESULT_CELLS = MAX_ROWS * COLUMNS;
    private static final int CONDITIONS = 5 * COLUMNS;
    private static final int COLUMN_PAIRS = COLUMNS * COLUMNS;
    private static final int SETS = COLUMNS * (GREATEST - LEAST + 1);

    private final int[] cells = new int[CELLS];
    private final int[] sizes = new int[TABLES];

    // What the tables had when the open transaction began. A whole copy is small here, and
    // bringing it back can't depend on the order of the changes as undoing them one by one would.
    private final int[] savedCells = new int[CELLS];
    private final int[] savedSizes = new int[TABLES];
    private boolean open = false;
    // Stays 0 while no transaction is open, so that a breakdown can answer it as it is.
    private int changes = 0;

    // The result holds copies, so that later changes of the table leave it alone.
    private final int[] result = new int[RESULT_CELLS];
    private int resultSize = 0;

    public RelationalPages() {
    }

    public int insert(int t, int a, int b, int c) {
        if (!isTable(t) || !isNumber(a) || !isNumber(b) || !isNumber(c)) {
            return BAD;
        }
        if (sizes[t] >= MAX_ROWS || !hasRoomFor(1)) {
            return FULL;
        }
        int first = cellOf(t, sizes[t], 0);
        cells[first] = a;
        cells[first + 1] = b;
        cells[first + 2] = c;
        sizes[t]++;
        noteChanges(1);
        return sizes[t];
    }

    public int delete(int t, int condition, int v) {
        if (!isTable(t) || !isCondition(condition)) {
            return BAD;
        }
        int met = countMeeting(t, condition, v);
        if (!hasRoomFor(met)) {
            return FULL;
        }
        keepOthers(t, condition, v);
        noteChanges(met);
        return met;
    }

    public int update(int t, int condition, int v, int set) {
        if (!isTable(t) || !isCondition(condition) || set < 0 || set >= SETS) {
            return BAD;
        }
        int met = countMeeting(t, condition, v);
        if (!hasRoomFor(met)) {
            return FULL;
        }
        int column = set % COLUMNS;
        int number = set / COLUMNS + LEAST;
        for (int r = 0; r < sizes[t]; r++) {
            if (meets(t, r, condition, v)) {
                cells[cellOf(t, r, column)] = number;
            }
        }
        noteChanges(met);
        return met;
    }

    public boolean begin() {
        if (open) {
            return false;
        }
        copy(cells, savedCells, CELLS);
        copy(sizes, savedSizes, TABLES);
        open = true;
        return true;
    }

    public int commit() {
        if (!open) {
            return BAD;
        }
        return endTransaction();
    }

    public int rollback() {
        if (!open) {
            return BAD;
        }
        bringBack();
        return endTransaction();
    }

    public int crash() {
        if (open) {
            bringBack();
        }
        resultSize = 0;
        return endTransaction();
    }

    // The document lets no other answer depend on an index and promises no speed, so none is held:
    // an index beside the rows could only come to disagree with them.
    public boolean index(int t, int column, boolean on) {
        return isTable(t) && isColumn(column);
    }

    public int select(int t, int condition, int v, int order) {
        if (!isTable(t) || !isCondition(condition) || !isColumn(order)) {
            return BAD;
        }
        resultSize = 0;
        for (int r = 0; r < sizes[t]; r++) {
            if (meets(t, r, condition, v)) {
                addToResult(t, r, order);
            }
        }
        return resultSize;
    }

    public int row(int i, int column) {
        if (i < 0 || i >= resultSize || !isColumn(column)) {
            return BAD;
        }
        return result[i * COLUMNS + column];
    }

    public int count(int t, int condition, int v) {
        if (!isTable(t) || !isCondition(condition)) {
            return BAD;
        }
        return countMeeting(t, condition, v);
    }

    public int sum(int t, int column, int condition, int v) {
        if (!isTable(t) || !isColumn(column) || !isCondition(condition)) {
            return BAD;
        }
        int total = 0;
        for (int r = 0; r < sizes[t]; r++) {
            if (meets(t, r, condition, v)) {
                total += cells[cellOf(t, r, column)];
            }
        }
        return total;
    }

    public int join(int t, int u, int on) {
        if (!isTable(t) || !isTable(u) || !isColumnPair(on)) {
            return BAD;
        }
        int pairs = 0;
        for (int r = 0; r < sizes[t]; r++) {
            for (int s = 0; s < sizes[u]; s++) {
                if (joins(t, r, u, s, on)) {
                    pairs++;
                }
            }
        }
        return pairs;
    }

    public int joinSum(int t, int u, int on, int of) {
        if (!isTable(t) || !isTable(u) || !isColumnPair(on) || !isColumnPair(of)) {
            return BAD;
        }
        int total = 0;
        for (int r = 0; r < sizes[t]; r++) {
            for (int s = 0; s < sizes[u]; s++) {
                if (joins(t, r, u, s, on)) {
                    total += cells[cellOf(t, r, of % COLUMNS)] * cells[cellOf(u, s, of / COLUMNS)];
                }
            }
        }
        return total;
    }

    public int distinct(int t, int column) {
        if (!isTable(t) || !isColumn(column)) {
            return BAD;
        }
        int different = 0;
        for (int number = LEAST; number <= GREATEST; number++) {
            if (holds(t, column, number)) {
                different++;
            }
        }
        return different;
    }

    public int kth(int t, int column, int k) {
        if (!isTable(t) || !isColumn(column)) {
            return BAD;
        }
        int smaller = 0;
        for (int number = LEAST; number <= GREATEST; number++) {
            if (holds(t, column, number)) {
                if (smaller == k) {
                    return number;
                }
                smaller++;
            }
        }
        return BAD;
    }

    private static boolean isTable(int t) {
        return t >= 0 && t < TABLES;
    }

    private static boolean isColumn(int column) {
        return column >= 0 && column < COLUMNS;
    }

    private static boolean isNumber(int number) {
        return number >= LEAST && number <= GREATEST;
    }

    private static boolean isCondition(int condition) {
        return condition >= 0 && condition < CONDITIONS;
    }

    private static boolean isColumnPair(int pair) {
        return pair >= 0 && pair < COLUMN_PAIRS;
    }

    private static int cellOf(int t, int r, int column) {
        return (t * MAX_ROWS + r) * COLUMNS + column;
    }

    private static void copy(int[] from, int[] to, int length) {
        for (int i = 0; i < length; i++) {
            to[i] = from[i];
        }
    }

    private boolean hasRoomFor(int more) {
        return !open || changes + more <= MAX_CHANGES;
    }

    private void noteChanges(int made) {
        if (open) {
            changes += made;
        }
    }

    private void bringBack() {
        copy(savedCells, cells, CELLS);
        copy(savedSizes, sizes, TABLES);
    }

    private int endTransaction() {
        int made = changes;
        open = false;
        changes = 0;
        return made;
    }

    private boolean meets(int t, int r, int condition, int v) {
        int number = cells[cellOf(t, r, condition % COLUMNS)];
        switch (condition / COLUMNS) {
            case 0:
                return number == v;
            case 1:
                return number < v;
            case 2:
                return number > v;
            case 3:
                return number != v;
            default:
                return true;
        }
    }

    private int countMeeting(int t, int condition, int v) {
        int met = 0;
        for (int r = 0; r < sizes[t]; r++) {
            if (meets(t, r, condition, v)) {
                met++;
            }
        }
        return met;
    }

    private void keepOthers(int t, int condition, int v) {
        int kept = 0;
        for (int r = 0; r < sizes[t]; r++) {
            if (!meets(t, r, condition, v)) {
                moveRow(t, r, kept);
                kept++;
            }
        }
        sizes[t] = kept;
    }

    private void moveRow(int t, int from, int to) {
        for (int column = 0; column < COLUMNS; column++) {
            cells[cellOf(t, to, column)] = cells[cellOf(t, from, column)];
        }
    }

    private boolean joins(int t, int r, int u, int s, int on) {
        return cells[cellOf(t, r, on % COLUMNS)] == cells[cellOf(u, s, on / COLUMNS)];
    }

    private boolean holds(int t, int column, int number) {
        for (int r = 0; r < sizes[t]; r++) {
            if (cells[cellOf(t, r, column)] == number) {
                return true;
            }
        }
        return false;
    }

    private void addToResult(int t, int r, int order) {
        int first = cellOf(t, r, 0);
        int place = resultSize;
        while (place > 0 && comesBefore(first, place - 1, order)) {
            shiftResultRow(place - 1);
            place--;
        }
        for (int column = 0; column < COLUMNS; column++) {
            result[place * COLUMNS + column] = cells[first + column];
        }
        resultSize++;
    }

    private boolean comesBefore(int first, int i, int order) {
        int start = i * COLUMNS;
        if (cells[first + order] != result[start + order]) {
            return cells[first + order] < result[start + order];
        }
        for (int column = 0; column < COLUMNS; column++) {
            if (cells[first + column] != result[start + column]) {
                return cells[first + column] < result[start + column];
            }
        }
        return false;
    }

    private void shiftResultRow(int i) {
        for (int column = 0; column < COLUMNS; column++) {
            result[(i + 1) * COLUMNS + column] = result[i * COLUMNS + column];
        }
    }
}
