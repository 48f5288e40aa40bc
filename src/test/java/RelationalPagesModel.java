import java.util.ArrayList;
import java.util.Comparator;
import java.util.List;
import java.util.TreeSet;

/**
 * Long runs of calls, answered by the class and by a second database that is written straight from
 * the document with lists. The runs are the same every time.
 */
public final class RelationalPagesModel {
    private static final int BAD = -1000;
    private static final int FULL = -2000;
    private static final int RUNS = 3000;
    private static final int CALLS = 512;
    private static final int[] EDGES = {Integer.MIN_VALUE, -100, -1, 3, 9, 15, 100, 597, Integer.MAX_VALUE};

    private static long seed = 20261115L;

    private List<List<int[]>> tables = List.of(new ArrayList<>(), new ArrayList<>(), new ArrayList<>());
    private List<List<int[]>> before = tables;
    private boolean open = false;
    private int changes = 0;
    private List<int[]> result = new ArrayList<>();

    public static void main(String[] args) {
        int wrong = 0;
        for (int run = 0; run < RUNS && wrong < 20; run++) {
            // Narrow numbers make rows that are alike and meet often; wide ones reach the ends.
            wrong += oneRun(run, run % 3 == 0 ? 2 : run % 3 == 1 ? 12 : 99, run % 2 == 0 ? 3 : 12);
        }
        System.out.println(wrong == 0 ? "all runs agree" : wrong + " runs do not agree");
        if (wrong != 0) {
            System.exit(1);
        }
    }

    /** Answers 1 when the run went wrong; it ends there, as the two states may differ from then on. */
    private static int oneRun(int run, int width, int deleteRarely) {
        RelationalPages x = new RelationalPages();
        RelationalPagesModel model = new RelationalPagesModel();
        for (int call = 0; call < CALLS; call++) {
            int kind = below(22);
            if (kind == 1 && below(deleteRarely) != 0) {
                kind = 0;
            }
            int[] p = arguments(kind, width);
            long got = ask(x, kind, p);
            long want = model.answer(kind, p);
            if (got != want) {
                System.out.println("run " + run + ", call " + call + ": kind " + kind + " with "
                        + java.util.Arrays.toString(p) + " answered " + got + ", due is " + want);
                return 1;
            }
        }
        return 0;
    }

    private static int below(int bound) {
        seed = seed * 6364136223846793005L + 1442695040888963407L;
        return (int) ((seed >>> 33) % bound);
    }

    private static int number(int width) {
        return below(2 * width + 1) - width;
    }

    private static int[] arguments(int kind, int width) {
        int t = below(3);
        int[] p;
        switch (kind) {
            case 1: case 12: case 13:
                p = new int[] {t, below(15), number(width), 0};
                break;
            case 2: case 3:
                p = new int[] {t, below(15), number(width), below(3) + 3 * (number(width) + 99)};
                break;
            case 9: case 10:
                p = new int[] {t, below(15), number(width), below(3)};
                break;
            case 11: case 21:
                p = new int[] {below(26) - 1, below(3), 0, 0};
                break;
            case 14:
                p = new int[] {t, below(3), below(15), number(width)};
                break;
            case 15: case 16:
                p = new int[] {t, below(3), below(9), below(9)};
                break;
            case 8: case 17: case 18: case 19:
                p = new int[] {t, below(3), below(kind == 19 ? 26 : 8) - 1, 0};
                break;
            default:
                p = new int[] {t, number(width), number(width), number(width)};
        }
        if (below(25) == 0) {
            p[below(4)] = EDGES[below(EDGES.length)];
        }
        return p;
    }

    private static long ask(RelationalPages x, int kind, int[] p) {
        switch (kind) {
            case 1: return x.delete(p[0], p[1], p[2]);
            case 2: case 3: return x.update(p[0], p[1], p[2], p[3]);
            case 4: return x.begin() ? 1 : 0;
            case 5: return x.commit();
            case 6: return x.rollback();
            case 7: return x.crash();
            case 8: return x.index(p[0], p[1], p[2] > 2) ? 1 : 0;
            case 9: case 10: return x.select(p[0], p[1], p[2], p[3]);
            case 11: case 21: return x.row(p[0], p[1]);
            case 12: case 13: return x.count(p[0], p[1], p[2]);
            case 14: return x.sum(p[0], p[1], p[2], p[3]);
            case 15: return x.join(p[0], p[1], p[2]);
            case 16: return x.joinSum(p[0], p[1], p[2], p[3]);
            case 17: return x.distinct(p[0], p[1]);
            case 18: case 19: return x.kth(p[0], p[1], p[2]);
            default: return x.insert(p[0], p[1], p[2], p[3]);
        }
    }

    private long answer(int kind, int[] p) {
        switch (kind) {
            case 1: return change(p[0], p[1], p[2], -1);
            case 2: case 3: return outside(p[3], 597) ? BAD : change(p[0], p[1], p[2], p[3]);
            case 4: return begin();
            case 5: return open ? end(false) : BAD;
            case 6: return open ? end(true) : BAD;
            case 7: result = new ArrayList<>(); return open ? end(true) : 0;
            case 8: return outside(p[0], 3) || outside(p[1], 3) ? 0 : 1;
            case 9: case 10: return select(p[0], p[1], p[2], p[3]);
            case 11: case 21:
                return outside(p[0], result.size()) || outside(p[1], 3) ? BAD : result.get(p[0])[p[1]];
            case 12: case 13: return noCondition(p[0], p[1]) ? BAD : meeting(p[0], p[1], p[2]).size();
            case 14: return noCondition(p[0], p[2]) || outside(p[1], 3) ? BAD
                    : meeting(p[0], p[2], p[3]).stream().mapToInt(r -> r[p[1]]).sum();
            case 15: return join(p[0], p[1], p[2], -1);
            case 16: return outside(p[3], 9) ? BAD : join(p[0], p[1], p[2], p[3]);
            case 17: return outside(p[0], 3) || outside(p[1], 3) ? BAD : numbers(p[0], p[1]).size();
            case 18: case 19: return kth(p[0], p[1], p[2]);
            default: return insert(p);
        }
    }

    private static boolean outside(int n, int bound) {
        return n < 0 || n >= bound;
    }

    private static boolean noCondition(int t, int condition) {
        return outside(t, 3) || outside(condition, 15);
    }

    private static List<List<int[]>> copyOf(List<List<int[]>> tables) {
        List<List<int[]>> copy = new ArrayList<>();
        for (List<int[]> table : tables) {
            List<int[]> rows = new ArrayList<>();
            table.forEach(r -> rows.add(r.clone()));
            copy.add(rows);
        }
        return copy;
    }

    private List<int[]> meeting(int t, int condition, int v) {
        List<int[]> rows = new ArrayList<>();
        for (int[] r : tables.get(t)) {
            int sign = Integer.compare(r[condition % 3], v);
            int op = condition / 3;
            if (op == 4 || op == 0 && sign == 0 || op == 1 && sign < 0 || op == 2 && sign > 0 || op == 3 && sign != 0) {
                rows.add(r);
            }
        }
        return rows;
    }

    private int insert(int[] p) {
        if (outside(p[0], 3)) {
            return BAD;
        }
        for (int i = 1; i < 4; i++) {
            if (p[i] < -99 || p[i] > 99) {
                return BAD;
            }
        }
        List<int[]> table = tables.get(p[0]);
        if (table.size() == 24 || open && changes == 30) {
            return FULL;
        }
        table.add(new int[] {p[1], p[2], p[3]});
        changes++;
        return table.size();
    }

    /** A deletion when set is -1, else an update. */
    private int change(int t, int condition, int v, int set) {
        if (noCondition(t, condition)) {
            return BAD;
        }
        List<int[]> rows = meeting(t, condition, v);
        if (open && changes + rows.size() > 30) {
            return FULL;
        }
        if (set == -1) {
            tables.get(t).removeAll(rows);
        } else {
            rows.forEach(r -> r[set % 3] = set / 3 - 99);
        }
        changes += rows.size();
        return rows.size();
    }

    private int begin() {
        if (open) {
            return 0;
        }
        before = copyOf(tables);
        open = true;
        changes = 0;
        return 1;
    }

    private int end(boolean back) {
        if (back) {
            tables = before;
        }
        open = false;
        return changes;
    }

    private int select(int t, int condition, int v, int order) {
        if (noCondition(t, condition) || outside(order, 3)) {
            return BAD;
        }
        result = new ArrayList<>();
        meeting(t, condition, v).forEach(r -> result.add(r.clone()));
        result.sort(Comparator.<int[]>comparingInt(r -> r[order])
                .thenComparingInt(r -> r[0]).thenComparingInt(r -> r[1]).thenComparingInt(r -> r[2]));
        return result.size();
    }

    /** The number of pairs when of is -1, else the sum of the products. */
    private int join(int t, int u, int on, int of) {
        if (outside(t, 3) || outside(u, 3) || outside(on, 9)) {
            return BAD;
        }
        int total = 0;
        for (int[] r : tables.get(t)) {
            for (int[] s : tables.get(u)) {
                if (r[on % 3] == s[on / 3]) {
                    total += of == -1 ? 1 : r[of % 3] * s[of / 3];
                }
            }
        }
        return total;
    }

    private TreeSet<Integer> numbers(int t, int column) {
        TreeSet<Integer> numbers = new TreeSet<>();
        tables.get(t).forEach(r -> numbers.add(r[column]));
        return numbers;
    }

    private int kth(int t, int column, int k) {
        if (outside(t, 3) || outside(column, 3)) {
            return BAD;
        }
        List<Integer> ordered = new ArrayList<>(numbers(t, column));
        return outside(k, ordered.size()) ? BAD : ordered.get(k);
    }
}
