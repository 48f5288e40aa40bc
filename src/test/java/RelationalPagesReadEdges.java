import java.util.function.ToIntFunction;

/** The edges that promises 10 to 17 name, sentence by sentence. */
public final class RelationalPagesReadEdges extends Checks {
    public static void main(String[] args) throws Exception {
        runAll(RelationalPagesReadEdges.class);
    }

    private static void dueReadOnly(ToIntFunction<RelationalPages> call, int want) {
        dueUnchanged("a call that only reads", () -> selected(opened(2, 0, 3)), call, want);
    }

    private static void selectMakesTheResult() {
        about(10, "Makes the rows of table t that meet the condition the result");
        RelationalPages x = filled(0, 1, 1, 1);
        put(x, 1, 2, 5, 0, 3, 6, 0, 2, 7, 0);
        put(x, 2, 4, 4, 4);
        x.select(1, 0, 2, 0);
        dueResult("first and last", x, 2, 5, 0, 2, 7, 0);
        x.select(1, 9, 2, 0);
        dueResult("the one between", x, 3, 6, 0);
        x.select(0, ALL, 0, 0);
        dueResult("table 0", x, 1, 1, 1);
        x.select(2, ALL, 0, 0);
        dueResult("table 2", x, 4, 4, 4);
        x.select(2, 0, 5, 0);
        dueResult("none meets", x);
    }

    private static void selectReplacesTheResult() {
        about(10, "Makes the rows of table t that meet the condition the result");
        RelationalPages x = withMany(0, 24);
        x.insert(1, 5, 6, 7);
        x.select(0, ALL, 0, 0);
        x.select(1, ALL, 0, 0);
        dueResult("a smaller one after a full one", x, 5, 6, 7);
        due("nothing of the full one", x.row(23, 0), BAD);
        x.select(2, ALL, 0, 0);
        dueResult("an empty one", x);
        x.select(1, ALL, 0, 0);
        x.select(1, ALL, 0, 0);
        dueResult("the same twice", x, 5, 6, 7);
        x.select(0, ALL, 0, 0);
        due("a full one", x.row(23, 0), 23);
    }

    private static void selectOrders() {
        about(10, "in the order of their numbers in the column order");
        RelationalPages x = filled(0, 99, 1, -1, -99, 0, 99, 0, -99, 1, 1, 99, 0, -1, -1, -99);
        due("order 0", x.select(0, ALL, 0, 0), 5);
        dueResult("order 0", x, -99, 0, 99, -1, -1, -99, 0, -99, 1, 1, 99, 0, 99, 1, -1);
        due("order 1", x.select(0, ALL, 0, 1), 5);
        dueResult("order 1", x, 0, -99, 1, -1, -1, -99, -99, 0, 99, 99, 1, -1, 1, 99, 0);
        due("order 2", x.select(0, ALL, 0, 2), 5);
        dueResult("order 2", x, -1, -1, -99, 99, 1, -1, 1, 99, 0, 0, -99, 1, -99, 0, 99);
        for (int step = 1; step < 24; step += 2) {
            if (step % 3 != 0) {
                dueSorted(step);
            }
        }
    }

    /** Steps that share no divisor with 24 put all numbers below 24 in, each time in another order. */
    private static void dueSorted(int step) {
        RelationalPages x = new RelationalPages();
        for (int n = 0; n < 24; n++) {
            x.insert(1, 0, n * step % 24 - 12, 0);
        }
        due("24 rows", x.select(1, ALL, 0, 1), 24);
        for (int i = 0; i < 24; i++) {
            due("row " + i + " of 24 in steps of " + step, x.row(i, 1), i - 12);
        }
    }

    private static void selectOrdersEqualOnes() {
        about(10, "equal ones in that of column 0, then 1, then 2");
        int[] bits = {5, 2, 7, 0, 3, 6, 1, 4, 2, 5};
        RelationalPages x = new RelationalPages();
        for (int n : bits) {
            x.insert(2, n >> 2, n >> 1 & 1, n & 1);
        }
        x.select(2, ALL, 0, 0);
        dueResult("order 0: then 1, then 2", x, 0, 0, 0, 0, 0, 1, 0, 1, 0, 0, 1, 0, 0, 1, 1,
                1, 0, 0, 1, 0, 1, 1, 0, 1, 1, 1, 0, 1, 1, 1);
        x.select(2, ALL, 0, 1);
        dueResult("order 1: then 0, then 2", x, 0, 0, 0, 0, 0, 1, 1, 0, 0, 1, 0, 1, 1, 0, 1,
                0, 1, 0, 0, 1, 0, 0, 1, 1, 1, 1, 0, 1, 1, 1);
        x.select(2, ALL, 0, 2);
        dueResult("order 2: then 0, then 1", x, 0, 0, 0, 0, 1, 0, 0, 1, 0, 1, 0, 0, 1, 1, 0,
                0, 0, 1, 0, 1, 1, 1, 0, 1, 1, 0, 1, 1, 1, 1);
        RelationalPages y = filled(0, 99, -99, 0, -99, 99, 0, 99, -99, 0, -99, -99, 0);
        y.select(0, ALL, 0, 2);
        dueResult("the ends", y, -99, -99, 0, -99, 99, 0, 99, -99, 0, 99, -99, 0);
    }

    private static void selectAnswersHowMany() {
        about(10, "answers how many they are");
        for (int t = 0; t < 3; t++) {
            due("an empty table", new RelationalPages().select(t, ALL, 0, 0), 0);
            due("none meets", withMany(t, 24).select(t, 0, 24, 0), 0);
            due("one", withMany(t, 24).select(t, 0, 23, 1), 1);
            due("all but one", withMany(t, 24).select(t, 9, 0, 2), 23);
            due("a full table", withMany(t, 24).select(t, ALL, 0, 2), 24);
        }
        for (int v : outside(-99, 99)) {
            due("v " + v + " is no wrong input", withMany(0, 24).select(0, 9, v, 0), 24);
        }
        due("after 30 changes", opened(30, 0, 24).select(0, ALL, 0, 0), 24);
    }

    private static void selectIsBad() {
        about(10, "BAD, changing nothing, when t or order is not 0 .. 2 or condition is not 0 .. 14");
        dueRange("table", 0, 2, (x, n) -> x.select(n, ALL, 0, 0));
        dueRange("order", 0, 2, (x, n) -> x.select(0, ALL, 0, n));
        dueRange("condition", 0, 14, (x, n) -> x.select(0, n, 0, 0));
        due("table 2", withMany(2, 3).select(2, ALL, 0, 0), 3);
        due("order 2", withMany(0, 3).select(0, ALL, 0, 2), 3);
        due("condition 0", withMany(0, 3).select(0, 0, 2, 0), 1);
        due("condition 14", withMany(0, 3).select(0, 14, 2, 0), 3);
    }

    private static void resultIsNotTheTable() {
        about(10, "Makes the rows [..] the result");
        RelationalPages x = withMany(0, 2);
        x.select(0, ALL, 0, 0);
        x.update(0, 0, 1, set(1, 50));
        dueResult("after an update", x, 0, 0, 0, 1, 0, -1);
        x.insert(0, -5, 0, 0);
        dueResult("after an insertion", x, 0, 0, 0, 1, 0, -1);
        x.begin();
        x.delete(0, ALL, 0);
        dueResult("after a deletion", x, 0, 0, 0, 1, 0, -1);
        x.rollback();
        dueResult("after a rollback", x, 0, 0, 0, 1, 0, -1);
    }

    private static void resultOutlastsItsTransaction() {
        about("Terms", "Rolling it back brings all three tables back");
        RelationalPages x = withMany(0, 1);
        x.begin();
        x.insert(0, 7, 8, 9);
        x.select(0, ALL, 0, 0);
        x.rollback();
        dueResult("after a rollback", x, 0, 0, 0, 7, 8, 9);
        due("rows after a rollback", x.count(0, ALL, 0), 1);
        x.begin();
        x.insert(0, 4, 5, 6);
        x.select(0, ALL, 0, 0);
        x.commit();
        dueResult("after a commit", x, 0, 0, 0, 4, 5, 6);
    }

    private static void rowOfTheResult() {
        about(11, "The number in a column of row i (0 the first) of the result");
        RelationalPages x = withMany(0, 24);
        x.select(0, ALL, 0, 0);
        for (int i = 0; i < 24; i++) {
            due("row " + i + ", column 0", x.row(i, 0), i);
            due("row " + i + ", column 1", x.row(i, 1), 0);
            due("row " + i + ", column 2", x.row(i, 2), -i);
        }
        RelationalPages ends = filled(1, -99, 99, -99);
        ends.select(1, ALL, 0, 0);
        dueResult("the least and the greatest number", ends, -99, 99, -99);
        dueReadOnly(y -> y.row(2, 0), 2);
    }

    private static void rowOutside() {
        about(11, "BAD when there is none");
        for (int size = 1; size <= 24; size++) {
            RelationalPages x = withMany(0, size);
            x.select(0, ALL, 0, 0);
            due("the last of " + size, x.row(size - 1, 0), size - 1);
            for (int i : new int[] {MIN, -size, -1, size, size + 1, 24, 72, 1431655766, -1431655765, MAX}) {
                due("row " + i + " of " + size, x.row(i, 0), BAD);
            }
            for (int column : new int[] {MIN, -3, -1, 3, 4, 72, MAX}) {
                due("column " + column + " of the first", x.row(0, column), BAD);
                due("column " + column + " of the last", x.row(size - 1, column), BAD);
                due("column " + column + " after the last", x.row(size, column), BAD);
            }
        }
        dueRange("row", 0, 2, (x, n) -> x.row(n, 0));
        dueRange("column", 0, 2, (x, n) -> x.row(0, n));
    }

    private static void rowOfTheEmptyResult() {
        about(11, "BAD when there is none");
        RelationalPages x = withMany(0, 24);
        x.select(0, ALL, 0, 0);
        x.select(1, ALL, 0, 0);
        for (int i = -1; i <= 24; i++) {
            for (int column = 0; column < 3; column++) {
                due("row " + i + ", column " + column, x.row(i, column), BAD);
            }
        }
    }

    private static void countRows() {
        about(12, "The number of rows of table t that meet the condition");
        for (int t = 0; t < 3; t++) {
            due("an empty table", new RelationalPages().count(t, ALL, 0), 0);
            due("none meets", withMany(t, 24).count(t, 0, 24), 0);
            due("the first", withMany(t, 24).count(t, 3, 1), 1);
            due("the last", withMany(t, 24).count(t, 6, 22), 1);
            due("all but one", withMany(t, 24).count(t, 9, 23), 23);
            due("a full table", withMany(t, 24).count(t, ALL, 0), 24);
            due("another table", withMany(t, 24).count((t + 1) % 3, ALL, 0), 0);
        }
        for (int v : outside(-99, 99)) {
            due("v " + v + " is no wrong input", withMany(0, 24).count(0, 9, v), 24);
        }
        due("after 30 changes", opened(30, 0, 24).count(0, ALL, 0), 24);
        dueReadOnly(x -> x.count(0, ALL, 0), 3);
    }

    private static void countIsBad() {
        about(12, "BAD when t is not 0 .. 2 or condition is not 0 .. 14");
        dueRange("table", 0, 2, (x, n) -> x.count(n, ALL, 0));
        dueRange("condition", 0, 14, (x, n) -> x.count(0, n, 0));
        due("condition 0", withMany(0, 3).count(0, 0, 2), 1);
        due("condition 14", withMany(0, 3).count(0, 14, 2), 3);
    }

    /** 24 rows that are alike. */
    private static RelationalPages alike(int t, int a, int b, int c) {
        RelationalPages x = new RelationalPages();
        for (int n = 0; n < 24; n++) {
            x.insert(t, a, b, c);
        }
        return x;
    }

    private static void sumOfNumbers() {
        about(13, "The sum of the numbers in a column over the rows of table t that meet the condition");
        for (int t = 0; t < 3; t++) {
            due("an empty table", new RelationalPages().sum(t, 0, ALL, 0), 0);
            due("none meets", withMany(t, 24).sum(t, 0, 0, 24), 0);
            due("the greatest", alike(t, 99, 0, -99).sum(t, 0, ALL, 0), 2376);
            due("neither", alike(t, 99, 0, -99).sum(t, 1, ALL, 0), 0);
            due("the least", alike(t, 99, 0, -99).sum(t, 2, ALL, 0), -2376);
            due("the first", withMany(t, 24).sum(t, 2, 3, 1), 0);
            due("the last", withMany(t, 24).sum(t, 2, 6, 22), -23);
            due("another column in the condition", withMany(t, 24).sum(t, 0, 5, -20), 66);
        }
        for (int v : outside(-99, 99)) {
            due("v " + v + " is no wrong input", withMany(0, 24).sum(0, 0, 9, v), 276);
        }
        due("1 over", filled(0, 99, 0, 0, -98, 0, 0).sum(0, 0, ALL, 0), 1);
        due("after 30 changes", opened(30, 0, 24).sum(0, 0, ALL, 0), 276);
        dueReadOnly(x -> x.sum(0, 0, ALL, 0), 3);
    }

    private static void sumIsBad() {
        about(13, "BAD as in count, or when column is not 0 .. 2");
        dueRange("table", 0, 2, (x, n) -> x.sum(n, 0, ALL, 0));
        dueRange("column", 0, 2, (x, n) -> x.sum(0, n, ALL, 0));
        dueRange("column, when none meets,", 0, 2, (x, n) -> x.sum(0, n, 0, 77));
        dueRange("condition", 0, 14, (x, n) -> x.sum(0, 0, n, 0));
        due("condition 0", withMany(0, 3).sum(0, 0, 0, 2), 2);
        due("condition 14", withMany(0, 3).sum(0, 2, 14, 2), -3);
    }

    private static void joinPairs() {
        about(14, "The number of pairs of a row of table t and a row of table u");
        RelationalPages x = filled(0, 1, 0, 0, 1, 0, 0, 2, 0, 0);
        put(x, 1, 1, 9, 9, 1, 9, 9, 1, 9, 9, 3, 9, 9);
        put(x, 2, 2, 8, 8, -2, 8, 8);
        due("2 * 3 pairs", x.join(0, 1, 0), 6);
        due("the other way round", x.join(1, 0, 0), 6);
        due("one pair", x.join(0, 2, 0), 1);
        due("none", x.join(1, 2, 0), 0);
        RelationalPages full = alike(0, 99, -99, 0);
        for (int n = 0; n < 24; n++) {
            full.insert(1, -99, 99, 0);
        }
        due("full tables, none", full.join(0, 1, 0), 0);
        due("full tables, all", full.join(0, 1, 3), 576);
        dueReadOnly(y -> y.join(0, 2, 0), 1);
    }

    private static void joinOn() {
        about(14, "the number of the first in column c is that of the second in column d, where on is c + 3 * d");
        for (int on = 0; on < 9; on++) {
            int[] first = {-1, -2, -3};
            int[] second = {1, 2, 3};
            first[on % 3] = 50;
            second[on / 3] = 50;
            RelationalPages x = filled(0, first);
            put(x, 2, second);
            for (int tried = 0; tried < 9; tried++) {
                due("on " + tried + " where " + on + " joins", x.join(0, 2, tried), tried == on ? 1 : 0);
            }
        }
    }

    private static void joinWithItself() {
        about(14, "(t = u too)");
        for (int t = 0; t < 3; t++) {
            due("an empty table", new RelationalPages().join(t, t, 0), 0);
            due("one row", filled(t, 1, 2, 3).join(t, t, 0), 1);
            due("one row, another column", filled(t, 1, 2, 3).join(t, t, 3), 0);
            due("rows that differ", withMany(t, 24).join(t, t, 0), 24);
            due("rows that are alike", withMany(t, 24).join(t, t, 4), 576);
            due("different columns", filled(t, 1, 2, 0, 2, 1, 0, 2, 5, 0).join(t, t, 3), 3);
        }
    }

    private static void joinOfEmptyTables() {
        about(14, "The number of pairs of a row of table t and a row of table u");
        for (int on = 0; on < 9; on++) {
            due("an empty one first", alike(1, 0, 0, 0).join(0, 1, on), 0);
            due("an empty one second", alike(1, 0, 0, 0).join(1, 2, on), 0);
            due("both empty", alike(1, 0, 0, 0).join(2, 0, on), 0);
        }
    }

    private static void joinIsBad() {
        about(14, "BAD when t or u is not 0 .. 2 or on is not 0 .. 8");
        dueRange("first table", 0, 2, (x, n) -> x.join(n, 0, 0));
        dueRange("second table", 0, 2, (x, n) -> x.join(0, n, 0));
        dueRange("second table, the first being empty,", 0, 2, (x, n) -> x.join(1, n, 0));
        dueRange("on", 0, 8, (x, n) -> x.join(0, 0, n));
        dueRange("on, both empty,", 0, 8, (x, n) -> x.join(1, 1, n));
        due("on 8", withMany(0, 3).join(0, 0, 8), 3);
    }

    private static void joinSumOfProducts() {
        about(15, "The sum, over these pairs, of the products");
        RelationalPages x = alike(0, 99, -99, 0);
        for (int n = 0; n < 24; n++) {
            x.insert(1, -99, 99, 0);
        }
        due("the greatest sum", x.joinSum(0, 1, 8, 1), 576 * 9801);
        due("the least sum", x.joinSum(0, 1, 8, 0), -576 * 9801);
        due("zero", x.joinSum(0, 1, 8, 2), 0);
        due("no pair", x.joinSum(0, 1, 0, 0), 0);
        RelationalPages y = filled(0, 1, 7, 0, 1, -7, 0, 2, 50, 0);
        put(y, 1, 1, 3, 0, 3, 50, 0);
        due("products that cancel", y.joinSum(0, 1, 0, 4), 0);
        y.insert(1, 2, -2, 0);
        due("only the pairs", y.joinSum(0, 1, 0, 4), -100);
        dueReadOnly(z -> z.joinSum(0, 2, 0, 6), 3);
    }

    private static void joinSumOnAndOf() {
        about(15, "the number of the first row in column x and that of the second in column y, where of is x + 3 * y");
        int[] first = {2, 3, 5};
        int[] second = {7, 11, 13};
        for (int of = 0; of < 9; of++) {
            for (int on = 0; on < 9; on++) {
                RelationalPages x = filled(0, first);
                put(x, 2, second);
                int[] one = {40, 41, 42};
                one[on % 3] = 90;
                int[] other = {30, 31, 32};
                other[on / 3] = 90;
                put(x, 0, one);
                put(x, 2, other);
                due("on " + on + ", of " + of, x.joinSum(0, 2, on, of), one[of % 3] * other[of / 3]);
            }
        }
    }

    private static void joinSumWithItself() {
        about(15, "over these pairs [t = u too]");
        for (int t = 0; t < 3; t++) {
            due("an empty table", new RelationalPages().joinSum(t, t, 0, 0), 0);
            due("one row", filled(t, 1, 2, 3).joinSum(t, t, 0, 7), 6);
            due("rows that differ", withMany(t, 24).joinSum(t, t, 0, 0), 4324);
            due("rows that are alike", withMany(t, 24).joinSum(t, t, 4, 0), 276 * 276);
        }
    }

    private static void joinSumOfEmptyTables() {
        about(15, "The sum, over these pairs");
        for (int n = 0; n < 9; n++) {
            due("an empty one first", alike(1, 9, 9, 9).joinSum(0, 1, n, 8 - n), 0);
            due("an empty one second", alike(1, 9, 9, 9).joinSum(1, 2, n, 8 - n), 0);
            due("both empty", alike(1, 9, 9, 9).joinSum(2, 0, n, 8 - n), 0);
        }
    }

    private static void joinSumIsBad() {
        about(15, "BAD as in join, or when of is not 0 .. 8");
        dueRange("first table", 0, 2, (x, n) -> x.joinSum(n, 0, 0, 0));
        dueRange("second table", 0, 2, (x, n) -> x.joinSum(0, n, 0, 0));
        dueRange("second table, the first being empty,", 0, 2, (x, n) -> x.joinSum(1, n, 0, 0));
        dueRange("on", 0, 8, (x, n) -> x.joinSum(0, 0, n, 0));
        dueRange("of", 0, 8, (x, n) -> x.joinSum(0, 0, 0, n));
        dueRange("of, both empty,", 0, 8, (x, n) -> x.joinSum(1, 1, 0, n));
        due("on 8 and of 8", withMany(0, 3).joinSum(0, 0, 8, 8), 5);
    }

    private static void distinctNumbers() {
        about(16, "The number of different numbers in a column of table t");
        for (int t = 0; t < 3; t++) {
            for (int column = 0; column < 3; column++) {
                due("an empty table", new RelationalPages().distinct(t, column), 0);
                due("rows that are alike", alike(t, -99, 99, 0).distinct(t, column), 1);
            }
            due("24 of them", withMany(t, 24).distinct(t, 0), 24);
            due("one", withMany(t, 24).distinct(t, 1), 1);
            due("another table", withMany(t, 24).distinct((t + 1) % 3, 0), 0);
        }
        RelationalPages ends = filled(0, -99, 0, 0, 99, 0, 0, -99, 0, 0, 98, 0, 0, -98, 0, 0);
        due("the ends", ends.distinct(0, 0), 4);
        ends.delete(0, 0, -99);
        due("without the least", ends.distinct(0, 0), 3);
        ends.update(0, 0, 99, set(0, 98));
        due("without the greatest", ends.distinct(0, 0), 2);
        dueReadOnly(x -> x.distinct(0, 0), 3);
    }

    private static void distinctIsBad() {
        about(16, "BAD when t or column is not 0 .. 2");
        dueRange("table", 0, 2, (x, n) -> x.distinct(n, 0));
        dueRange("column", 0, 2, (x, n) -> x.distinct(0, n));
        due("column 2", withMany(0, 3).distinct(0, 2), 3);
    }

    private static void kthNumber() {
        about(17, "The k-th least (0 the least) of the different numbers in a column of table t");
        for (int t = 0; t < 3; t++) {
            for (int k = 0; k < 24; k++) {
                due("column 0, k " + k, withMany(t, 24).kth(t, 0, k), k);
                due("column 2, k " + k, withMany(t, 24).kth(t, 2, k), k - 23);
            }
        }
        RelationalPages x = filled(1, 99, 5, 0, -99, 5, 0, 99, 5, 1, 0, 5, -1, -99, 5, 1);
        int[] different = {-99, 0, 99};
        for (int k = 0; k < 3; k++) {
            due("alike ones once, k " + k, x.kth(1, 0, k), different[k]);
            due("the last column, k " + k, x.kth(1, 2, k), k - 1);
        }
        due("all alike", x.kth(1, 1, 0), 5);
        dueReadOnly(y -> y.kth(0, 0, 2), 2);
    }

    private static void kthIsNotThere() {
        about(17, "BAD when there is none");
        for (int size = 0; size <= 24; size++) {
            RelationalPages x = withMany(0, size);
            due("k " + size + " of " + size, x.kth(0, 0, size), BAD);
            due("k -1 of " + size, x.kth(0, 0, -1), BAD);
            due("k -" + size, x.kth(0, 0, -1 - size), BAD);
            due("the least int of " + size, x.kth(0, 0, MIN), BAD);
            due("the greatest int of " + size, x.kth(0, 0, MAX), BAD);
            due("rows that are alike", x.kth(0, 1, 1), BAD);
            due("an empty table", x.kth(1, 0, 0), BAD);
        }
    }

    private static void kthIsBad() {
        about(17, "or t or column is not 0 .. 2");
        dueRange("table", 0, 2, (x, n) -> x.kth(n, 0, 0));
        dueRange("column", 0, 2, (x, n) -> x.kth(0, n, 0));
    }
}
