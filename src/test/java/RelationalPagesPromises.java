/** For each promise of the document: ordinary inputs, the edges that it names, and wrong inputs. */
public final class RelationalPagesPromises extends Checks {
    public static void main(String[] args) throws Exception {
        runAll(RelationalPagesPromises.class);
    }

    private static void promise1New() {
        about(1, "a new object");
        RelationalPages x = new RelationalPages();
        due("row of the empty result", x.row(0, 0), BAD);
        for (int t = 0; t < 3; t++) {
            due("count in table " + t, x.count(t, ALL, 0), 0);
            due("select in table " + t, x.select(t, ALL, 0, 0), 0);
            due("distinct in table " + t, x.distinct(t, 0), 0);
        }
        due("commit", x.commit(), BAD);
        due("rollback", x.rollback(), BAD);
        due("begin", x.begin(), true);
        RelationalPages y = filled(0, 1, 2, 3);
        due("count in another object", x.count(0, ALL, 0), 0);
        due("begin in another object", y.begin(), true);
    }

    private static void promise2Insert() {
        about(2, "insert");
        RelationalPages x = new RelationalPages();
        due("first row", x.insert(0, 1, 2, 3), 1);
        due("a row alike", x.insert(0, 1, 2, 3), 2);
        due("least numbers", x.insert(1, -99, -99, -99), 1);
        due("greatest numbers", x.insert(2, 99, 99, 99), 1);
        for (int t : outside(0, 2)) {
            due("table " + t, x.insert(t, 0, 0, 0), BAD);
        }
        for (int n : new int[] {-100, 100, MIN, MAX}) {
            due("a = " + n, x.insert(0, n, 0, 0), BAD);
            due("b = " + n, x.insert(0, 0, n, 0), BAD);
            due("c = " + n, x.insert(0, 0, 0, n), BAD);
        }
        dueRows("after wrong inputs", x, 0, 1, 2, 3, 1, 2, 3);
        dueRows("after wrong inputs", x, 1, -99, -99, -99);
        dueRows("after wrong inputs", x, 2, 99, 99, 99);
        for (int n = 3; n <= 24; n++) {
            due("row " + n, x.insert(0, n, n, n), n);
        }
        due("row 25", x.insert(0, 0, 0, 0), FULL);
        due("BAD before FULL", x.insert(0, 0, 0, 100), BAD);
        due("another table", x.insert(1, 0, 0, 0), 2);
        due("count of the full table", x.count(0, ALL, 0), 24);
        due("room is made", x.delete(0, 0, 24), 1);
        due("room is used", x.insert(0, 7, 7, 7), 24);
    }

    private static void promise2InsertInTransaction() {
        about(2, "insert");
        RelationalPages x = new RelationalPages();
        x.begin();
        for (int n = 0; n < 30; n++) {
            due("change " + n, x.insert(n % 3, n, 0, 0), n / 3 + 1);
        }
        due("change 31", x.insert(0, 0, 0, 0), FULL);
        due("BAD before FULL", x.insert(3, 0, 0, 0), BAD);
        due("count after FULL", x.count(0, ALL, 0), 10);
        due("changes", x.commit(), 30);
        due("after commit", x.insert(0, 0, 0, 0), 11);
        x.begin();
        due("in the next transaction", x.insert(0, 0, 0, 0), 12);
        due("changes of the next", x.commit(), 1);
    }

    private static void promise3Delete() {
        about(3, "delete");
        RelationalPages x = filled(1, 1, 5, 9, 2, 5, 8, 3, 6, 7, 3, 6, 7);
        put(x, 0, 1, 5, 9);
        due("none meets", x.delete(1, 0, 4), 0);
        due("first and second", x.delete(1, 1, 5), 2);
        dueRows("delete where column 1 is 5", x, 1, 3, 6, 7, 3, 6, 7);
        dueRows("the other table", x, 0, 1, 5, 9);
        due("rows alike", x.delete(1, 0, 3), 2);
        due("from an empty table", x.delete(1, ALL, 0), 0);
        for (int condition = 0; condition < 15; condition++) {
            RelationalPages y = filled(2, -1, -1, -1, 0, 0, 0, 0, 0, 0, 1, 1, 1, 1, 1, 1, 1, 1, 1);
            int[] meeting = {2, 1, 3, 4, 6};
            due("condition " + condition, y.delete(2, condition, 0), meeting[condition / 3]);
            due("left by condition " + condition, y.count(2, ALL, 0), 6 - meeting[condition / 3]);
        }
        for (int t : outside(0, 2)) {
            due("table " + t, x.delete(t, ALL, 0), BAD);
        }
        for (int condition : outside(0, 14)) {
            due("condition " + condition, x.delete(0, condition, 0), BAD);
        }
        dueRows("after wrong inputs", x, 0, 1, 5, 9);
    }

    private static void promise3DeleteInTransaction() {
        about(3, "delete");
        RelationalPages x = new RelationalPages();
        for (int n = 0; n < 16; n++) {
            x.insert(0, n, 0, 0);
            x.insert(1, n, 0, 0);
        }
        x.begin();
        due("16 changes", x.delete(0, ALL, 0), 16);
        due("32 changes", x.delete(1, ALL, 0), FULL);
        due("31 changes", x.delete(1, 3, 15), FULL);
        due("BAD before FULL", x.delete(1, 15, 0), BAD);
        due("nothing is changed", x.count(1, ALL, 0), 16);
        due("30 changes", x.delete(1, 3, 14), 14);
        due("one more", x.delete(1, 0, 14), FULL);
        due("no more", x.delete(1, 0, 99), 0);
        due("changes", x.commit(), 30);
        due("after commit", x.delete(1, ALL, 0), 2);
    }

    private static void promise4Update() {
        about(4, "update");
        RelationalPages x = filled(0, 1, 5, 9, 2, 5, 8, 3, 6, 7);
        put(x, 1, 1, 5, 9);
        due("column 2 where column 1 is 5", x.update(0, 1, 5, set(2, -4)), 2);
        dueRows("updated", x, 0, 1, 5, -4, 2, 5, -4, 3, 6, 7);
        due("the column of the condition", x.update(0, 6, 1, set(0, 0)), 2);
        dueRows("updated again", x, 0, 0, 5, -4, 0, 6, 7, 1, 5, -4);
        due("a number that was there", x.update(0, 0, 0, set(0, 0)), 2);
        due("none meets", x.update(0, 0, 50, set(0, 1)), 0);
        due("set 0", x.update(0, ALL, 0, 0), 3);
        due("set 596", x.update(0, ALL, 0, 596), 3);
        due("column 1 to 42", x.update(0, ALL, 0, set(1, 42)), 3);
        dueRows("all rows", x, 0, -99, 42, 99, -99, 42, 99, -99, 42, 99);
        for (int t : outside(0, 2)) {
            due("table " + t, x.update(t, ALL, 0, 0), BAD);
        }
        for (int condition : outside(0, 14)) {
            due("condition " + condition, x.update(0, condition, 0, 0), BAD);
        }
        for (int set : new int[] {-1, 597, MIN, MAX}) {
            due("set " + set, x.update(0, ALL, 0, set), BAD);
        }
        dueRows("after wrong inputs", x, 0, -99, 42, 99, -99, 42, 99, -99, 42, 99);
        dueRows("the other table", x, 1, 1, 5, 9);
    }

    private static void promise4UpdateInTransaction() {
        about(4, "update");
        RelationalPages x = new RelationalPages();
        for (int n = 0; n < 16; n++) {
            x.insert(0, n, 0, 0);
        }
        due("16 changes outside", x.update(0, ALL, 0, set(1, 0)), 16);
        x.begin();
        due("16 changes that write what was there", x.update(0, ALL, 0, set(1, 0)), 16);
        due("32 changes", x.update(0, ALL, 0, set(1, 7)), FULL);
        due("31 changes", x.update(0, 3, 15, set(1, 7)), FULL);
        due("BAD before FULL", x.update(0, ALL, 0, 597), BAD);
        due("nothing is changed", x.count(0, 1, 7), 0);
        due("30 changes", x.update(0, 3, 14, set(1, 7)), 14);
        due("one more", x.update(0, 0, 0, set(1, 7)), FULL);
        due("no more", x.update(0, 0, 99, set(1, 7)), 0);
        due("changes", x.rollback(), 30);
        due("rolled back", x.count(0, 1, 7), 0);
    }

    private static void promise5Begin() {
        about(5, "begin");
        RelationalPages x = filled(0, 1, 1, 1);
        due("begin", x.begin(), true);
        x.insert(0, 2, 2, 2);
        due("begin while open", x.begin(), false);
        due("begin while open leaves the changes", x.rollback(), 1);
        dueRows("back to the first begin", x, 0, 1, 1, 1);
        due("begin after rollback", x.begin(), true);
        x.commit();
        due("begin after commit", x.begin(), true);
        x.select(0, ALL, 0, 0);
        x.crash();
        due("begin after crash", x.begin(), true);
        x.commit();
        x.select(0, ALL, 0, 0);
        x.begin();
        dueResult("begin leaves the result", x, 1, 1, 1);
    }

    private static void promise6Commit() {
        about(6, "commit");
        RelationalPages x = filled(0, 1, 1, 1, 2, 2, 2);
        due("none open", x.commit(), BAD);
        x.begin();
        due("no changes", x.commit(), 0);
        x.begin();
        x.insert(1, 7, 8, 9);
        x.update(0, ALL, 0, set(2, 5));
        x.delete(0, 0, 1);
        x.select(1, ALL, 0, 0);
        due("1 + 2 + 1 changes", x.commit(), 4);
        dueResult("commit leaves the result", x, 7, 8, 9);
        due("ended", x.commit(), BAD);
        due("nothing to roll back", x.rollback(), BAD);
        due("a breakdown afterwards", x.crash(), 0);
        dueRows("stays", x, 0, 2, 2, 5);
        dueRows("stays", x, 1, 7, 8, 9);
        x.insert(2, 0, 0, 0);
        x.begin();
        due("changes outside don't count", x.commit(), 0);
    }

    private static void promise7Rollback() {
        about(7, "rollback");
        RelationalPages x = filled(0, 1, 1, 1, 2, 2, 2);
        put(x, 1, 3, 3, 3);
        due("none open", x.rollback(), BAD);
        x.begin();
        x.insert(0, 9, 9, 9);
        x.update(0, ALL, 0, set(0, 4));
        x.delete(1, ALL, 0);
        x.insert(1, 5, 5, 5);
        x.insert(2, 6, 6, 6);
        x.insert(0, 100, 0, 0);
        x.select(0, 2, 9, 0);
        due("1 + 3 + 1 + 1 + 1 changes", x.rollback(), 7);
        dueResult("rollback leaves the result", x, 4, 9, 9);
        dueRows("back", x, 0, 1, 1, 1, 2, 2, 2);
        dueRows("back", x, 1, 3, 3, 3);
        dueRows("back", x, 2);
        due("ended", x.rollback(), BAD);
        x.begin();
        x.insert(0, 8, 8, 8);
        x.commit();
        x.insert(1, 7, 7, 7);
        x.begin();
        x.delete(0, ALL, 0);
        x.delete(1, ALL, 0);
        due("3 + 2 changes", x.rollback(), 5);
        dueRows("back to the later begin", x, 0, 1, 1, 1, 2, 2, 2, 8, 8, 8);
        dueRows("back to the later begin", x, 1, 3, 3, 3, 7, 7, 7);
    }

    private static void promise8Crash() {
        about(8, "crash");
        RelationalPages x = filled(0, 1, 1, 1);
        x.select(0, ALL, 0, 0);
        due("none open", x.crash(), 0);
        due("the result is empty", x.row(0, 0), BAD);
        dueRows("nothing is lost", x, 0, 1, 1, 1);
        x.begin();
        x.update(0, ALL, 0, set(1, 3));
        x.insert(0, 2, 2, 2);
        x.insert(2, 2, 2, 2);
        x.select(0, ALL, 0, 0);
        due("3 changes", x.crash(), 3);
        due("the result is empty again", x.row(0, 0), BAD);
        dueRows("back", x, 0, 1, 1, 1);
        dueRows("back", x, 2);
        due("none is open", x.commit(), BAD);
        due("none is open", x.rollback(), BAD);
        due("a second one", x.crash(), 0);
        x.begin();
        x.insert(0, 5, 5, 5);
        x.commit();
        x.insert(0, 6, 6, 6);
        due("after a commit", x.crash(), 0);
        dueRows("stays", x, 0, 1, 1, 1, 5, 5, 5, 6, 6, 6);
        x.begin();
        due("no changes", x.crash(), 0);
    }

    private static void promise9Index() {
        about(9, "index");
        RelationalPages x = filled(0, 3, 1, 1, 1, 2, 2, 2, 3, 3);
        for (int t = 0; t < 3; t++) {
            for (int column = 0; column < 3; column++) {
                due("give up what is not there", x.index(t, column, false), true);
                due("make", x.index(t, column, true), true);
                due("make again", x.index(t, column, true), true);
            }
        }
        for (int n : outside(0, 2)) {
            due("table " + n, x.index(n, 0, true), false);
            due("table " + n, x.index(n, 0, false), false);
            due("column " + n, x.index(0, n, true), false);
            due("column " + n, x.index(0, n, false), false);
        }
        x.begin();
        due("index is no change", x.index(0, 0, true), true);
        due("no changes", x.commit(), 0);
        x.insert(0, 0, 4, 4);
        x.update(0, 0, 3, set(0, 5));
        dueRows("with indexes", x, 0, 0, 4, 4, 1, 2, 2, 2, 3, 3, 5, 1, 1);
        due("kth with an index", x.kth(0, 0, 3), 5);
        x.begin();
        x.delete(0, 0, 5);
        x.crash();
        due("count after a crash", x.count(0, 0, 5), 1);
        due("give up", x.index(0, 0, false), true);
        due("kth without an index", x.kth(0, 0, 3), 5);
    }

    private static void promise10Select() {
        about(10, "select");
        RelationalPages x = filled(0, 2, 9, 5, 1, 9, 5, 2, 8, 5, 2, 8, 4, 1, 9, 5, -3, 0, 6);
        due("order 0", x.select(0, ALL, 0, 0), 6);
        dueResult("order 0", x, -3, 0, 6, 1, 9, 5, 1, 9, 5, 2, 8, 4, 2, 8, 5, 2, 9, 5);
        due("order 1", x.select(0, ALL, 0, 1), 6);
        dueResult("order 1", x, -3, 0, 6, 2, 8, 4, 2, 8, 5, 1, 9, 5, 1, 9, 5, 2, 9, 5);
        due("order 2", x.select(0, ALL, 0, 2), 6);
        dueResult("order 2", x, 2, 8, 4, 1, 9, 5, 1, 9, 5, 2, 8, 5, 2, 9, 5, -3, 0, 6);
        due("equal", x.select(0, 1, 8, 0), 2);
        dueResult("equal", x, 2, 8, 4, 2, 8, 5);
        due("less", x.select(0, 3, 1, 0), 1);
        dueResult("less", x, -3, 0, 6);
        due("greater", x.select(0, 8, 5, 0), 1);
        dueResult("greater", x, -3, 0, 6);
        due("not", x.select(0, 11, 5, 0), 2);
        dueResult("not", x, -3, 0, 6, 2, 8, 4);
        due("condition 14", x.select(0, 14, 5, 0), 6);
        x.select(0, 0, 1, 0);
        x.update(0, ALL, 0, set(0, 50));
        x.delete(0, ALL, 0);
        dueResult("later changes leave the result", x, 1, 9, 5, 1, 9, 5);
        due("none meets", x.select(0, ALL, 0, 0), 0);
        dueResult("none meets", x);
    }

    private static void promise10SelectWrong() {
        about(10, "select");
        RelationalPages x = filled(0, 1, 2, 3);
        x.select(0, ALL, 0, 0);
        for (int n : outside(0, 2)) {
            due("table " + n, x.select(n, ALL, 0, 0), BAD);
            due("order " + n, x.select(0, ALL, 0, n), BAD);
        }
        for (int condition : outside(0, 14)) {
            due("condition " + condition, x.select(0, condition, 0, 0), BAD);
        }
        dueResult("wrong inputs leave the result", x, 1, 2, 3);
        RelationalPages full = new RelationalPages();
        for (int n = 0; n < 24; n++) {
            full.insert(2, 24 - n, n, 0);
        }
        due("24 rows", full.select(2, ALL, 0, 2), 24);
        due("the first of 24", full.row(0, 0), 1);
        due("the last of 24", full.row(23, 0), 24);
        due("after the last of 24", full.row(24, 0), BAD);
    }

    private static void promise11Row() {
        about(11, "row");
        RelationalPages x = filled(0, 1, 2, 3, 4, 5, 6);
        due("before any selection", x.row(0, 0), BAD);
        x.select(0, ALL, 0, 0);
        dueResult("two rows", x, 1, 2, 3, 4, 5, 6);
        for (int i : new int[] {-1, 2, MIN, MAX, 1431655766}) {
            due("row " + i, x.row(i, 0), BAD);
        }
        for (int column : outside(0, 2)) {
            due("column " + column, x.row(0, column), BAD);
        }
        x.select(0, 0, 4, 0);
        due("a smaller result", x.row(1, 0), BAD);
    }

    private static void promise12Count() {
        about(12, "count");
        RelationalPages x = filled(0, -2, 0, 99, 0, 0, 99, 0, 1, -99, 5, 1, 99);
        int[] atZero = {2, 2, 0, 1, 0, 1, 1, 2, 3, 2, 2, 4, 4, 4, 4};
        for (int condition = 0; condition < 15; condition++) {
            due("condition " + condition + " with 0", x.count(0, condition, 0), atZero[condition]);
            due("empty table, condition " + condition, x.count(1, condition, 0), 0);
        }
        int[] atMin = {0, 0, 4, 4, 4};
        int[] atMax = {0, 4, 0, 4, 4};
        for (int op = 0; op < 5; op++) {
            due("op " + op + " with the least int", x.count(0, 3 * op, MIN), atMin[op]);
            due("op " + op + " with the greatest int", x.count(0, 3 * op, MAX), atMax[op]);
        }
        for (int t : outside(0, 2)) {
            due("table " + t, x.count(t, ALL, 0), BAD);
        }
        for (int condition : outside(0, 14)) {
            due("condition " + condition, x.count(0, condition, 0), BAD);
        }
    }

    private static void promise13Sum() {
        about(13, "sum");
        RelationalPages x = filled(0, 1, 10, -5, 2, 20, -6, 3, 30, 99, 3, 30, 99);
        due("column 0", x.sum(0, 0, ALL, 0), 9);
        due("column 1", x.sum(0, 1, ALL, 0), 90);
        due("column 2", x.sum(0, 2, ALL, 0), 187);
        due("equal", x.sum(0, 1, 0, 3), 60);
        due("less", x.sum(0, 2, 4, 30), -11);
        due("greater", x.sum(0, 0, 8, -6), 7);
        due("not", x.sum(0, 2, 9, 3), -11);
        due("none meets", x.sum(0, 0, 0, 77), 0);
        due("empty table", x.sum(1, 0, ALL, 0), 0);
        for (int n : outside(0, 2)) {
            due("table " + n, x.sum(n, 0, ALL, 0), BAD);
            due("column " + n, x.sum(0, n, ALL, 0), BAD);
        }
        for (int condition : outside(0, 14)) {
            due("condition " + condition, x.sum(0, 0, condition, 0), BAD);
        }
    }

    private static void promise14Join() {
        about(14, "join");
        RelationalPages x = filled(0, 1, 4, 7, 1, 5, 8, 2, 5, 9);
        put(x, 1, 5, 1, 2, 6, 1, 7, 5, 9, 9);
        int[] pairs = {0, 4, 0, 4, 0, 1, 1, 0, 2};
        for (int on = 0; on < 9; on++) {
            due("on " + on, x.join(0, 1, on), pairs[on]);
        }
        due("the other way round", x.join(1, 0, 3), 4);
        due("with itself", x.join(0, 0, 0), 5);
        due("with an empty table", x.join(0, 2, 0), 0);
        due("an empty table", x.join(2, 0, 0), 0);
        for (int n : outside(0, 2)) {
            due("table " + n, x.join(n, 0, 0), BAD);
            due("second table " + n, x.join(0, n, 0), BAD);
        }
        for (int on : outside(0, 8)) {
            due("on " + on, x.join(0, 0, on), BAD);
        }
        RelationalPages full = new RelationalPages();
        for (int n = 0; n < 24; n++) {
            full.insert(0, 99, -99, 0);
        }
        due("24 * 24 pairs", full.join(0, 0, 0), 576);
        about(15, "joinSum");
        due("greatest sum", full.joinSum(0, 0, 0, 0), 576 * 9801);
        due("least sum", full.joinSum(0, 0, 0, 3), -576 * 9801);
    }

    private static void promise15JoinSum() {
        about(15, "joinSum");
        RelationalPages x = filled(0, 1, 10, 100 - 1, 2, 20, 50);
        put(x, 1, 1, 3, 5, 1, 4, 6, 2, -7, 8);
        int[] sums = {1 + 1 + 4, 10 + 10 + 40, 99 + 99 + 100,
            3 + 4 - 14, 30 + 40 - 140, 297 + 396 - 350,
            5 + 6 + 16, 50 + 60 + 160, 495 + 594 + 400};
        for (int of = 0; of < 9; of++) {
            due("of " + of, x.joinSum(0, 1, 0, of), sums[of]);
        }
        due("on 6", x.joinSum(1, 0, 6, 0), 0);
        x.insert(1, 9, 10, 11);
        due("on 4", x.joinSum(0, 1, 4, 6), 11);
        due("with itself", x.joinSum(1, 1, 0, 4), 49 + 49 + 100);
        due("with an empty table", x.joinSum(0, 2, 0, 0), 0);
        for (int n : outside(0, 2)) {
            due("table " + n, x.joinSum(n, 0, 0, 0), BAD);
            due("second table " + n, x.joinSum(0, n, 0, 0), BAD);
        }
        for (int pair : outside(0, 8)) {
            due("on " + pair, x.joinSum(0, 0, pair, 0), BAD);
            due("of " + pair, x.joinSum(0, 0, 0, pair), BAD);
        }
    }

    private static void promise16Distinct() {
        about(16, "distinct");
        RelationalPages x = filled(0, 1, 7, -99, 2, 7, 99, 1, 7, 0, 3, 7, -99);
        due("column 0", x.distinct(0, 0), 3);
        due("column 1", x.distinct(0, 1), 1);
        due("column 2", x.distinct(0, 2), 3);
        due("empty table", x.distinct(1, 0), 0);
        x.delete(0, 0, 2);
        due("one less", x.distinct(0, 0), 2);
        for (int n : outside(0, 2)) {
            due("table " + n, x.distinct(n, 0), BAD);
            due("column " + n, x.distinct(0, n), BAD);
        }
        RelationalPages full = new RelationalPages();
        for (int n = 0; n < 24; n++) {
            full.insert(2, n, 0, n / 2);
        }
        due("24 different", full.distinct(2, 0), 24);
        due("12 different", full.distinct(2, 2), 12);
    }

    private static void promise17Kth() {
        about(17, "kth");
        RelationalPages x = filled(0, 4, 7, -99, -2, 7, 99, 4, 7, 0, 9, 7, -99);
        int[] column0 = {-2, 4, 9, BAD};
        int[] column1 = {7, BAD, BAD, BAD};
        int[] column2 = {-99, 0, 99, BAD};
        for (int k = 0; k < 4; k++) {
            due("column 0, k " + k, x.kth(0, 0, k), column0[k]);
            due("column 1, k " + k, x.kth(0, 1, k), column1[k]);
            due("column 2, k " + k, x.kth(0, 2, k), column2[k]);
            due("empty table, k " + k, x.kth(1, 0, k), BAD);
        }
        for (int k : new int[] {-1, MIN, MAX}) {
            due("k " + k, x.kth(0, 0, k), BAD);
        }
        for (int n : outside(0, 2)) {
            due("table " + n, x.kth(n, 0, 0), BAD);
            due("column " + n, x.kth(0, n, 0), BAD);
        }
        RelationalPages full = new RelationalPages();
        for (int n = 23; n >= 0; n--) {
            full.insert(2, n, 0, 0);
        }
        due("the last of 24", full.kth(2, 0, 23), 23);
        due("after the last of 24", full.kth(2, 0, 24), BAD);
    }
}
