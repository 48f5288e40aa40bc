import java.util.function.ToIntFunction;

/** The edges that the sections "What it is" and "Terms" name, sentence by sentence. */
public final class RelationalPagesTerms extends Checks {
    public static void main(String[] args) throws Exception {
        runAll(RelationalPagesTerms.class);
    }

    private static void manyCallsOfOneKind() {
        about("What it is", "at most 512 calls");
        RelationalPages inserts = new RelationalPages();
        RelationalPages refused = withMany(0, 1);
        RelationalPages selects = withMany(0, 1);
        RelationalPages crashes = withMany(0, 1);
        RelationalPages begins = new RelationalPages();
        RelationalPages updates = withMany(0, 1);
        for (int call = 1; call <= 510; call++) {
            due("insert, call " + call, inserts.insert(1, 0, 0, 0), call > 24 ? FULL : call);
            due("a refused call", refused.insert(0, 0, 0, 100), BAD);
            due("select, call " + call, selects.select(0, ALL, 0, 0), 1);
            due("crash, call " + call, crashes.crash(), 0);
            due("begin, call " + call, begins.begin(), call == 1);
            due("update, call " + call, updates.update(0, ALL, 0, set(0, call % 100)), 1);
        }
        due("rows after 510 insertions", inserts.count(1, ALL, 0), 24);
        due("rows after 510 refused calls", refused.count(0, ALL, 0), 1);
        due("result after 510 selections", selects.row(0, 0), 0);
        due("rows after 510 breakdowns", crashes.count(0, ALL, 0), 1);
        due("changes after 510 calls of begin", begins.commit(), 0);
        due("begin as call 512", begins.begin(), true);
        due("number after 510 updates", updates.kth(0, 0, 0), 10);
    }

    private static void manyTransactions() {
        about("What it is", "at most 512 calls");
        RelationalPages x = withMany(0, 1);
        for (int n = 1; n <= 170; n++) {
            due("begin " + n, x.begin(), true);
            due("update " + n, x.update(0, ALL, 0, set(1, n % 100)), 1);
            due("end " + n, n % 3 == 0 ? x.rollback() : n % 3 == 1 ? x.commit() : x.crash(), 1);
        }
        due("call 512", x.kth(0, 1, 0), 69);
    }

    private static void fillingAndEmptying() {
        about("What it is", "at most 512 calls");
        RelationalPages x = new RelationalPages();
        for (int round = 0; round < 20; round++) {
            for (int n = 1; n <= 24; n++) {
                due("round " + round + ", row " + n, x.insert(round % 3, n, n, n), n);
            }
            due("round " + round, x.delete(round % 3, ALL, 0), 24);
        }
        due("call 501", x.count(0, ALL, 0), 0);
    }

    private static void tables() {
        about("Terms", "There are TABLES 0 .. 2");
        RelationalPages x = new RelationalPages();
        for (int t = 0; t < 3; t++) {
            due("insert into table " + t, x.insert(t, 10 + t, 20 + t, 30 + t), 1);
        }
        for (int t = 0; t < 3; t++) {
            dueRows("each its own row", x, t, 10 + t, 20 + t, 30 + t);
        }
        due("delete from table 1", x.delete(1, ALL, 0), 1);
        dueRows("the table before it", x, 0, 10, 20, 30);
        dueRows("the table after it", x, 2, 12, 22, 32);
        due("table -1", x.insert(-1, 0, 0, 0), BAD);
        due("table 3", x.insert(3, 0, 0, 0), BAD);
    }

    private static void atMost24Rows() {
        about("Terms", "A table is a collection of at most 24 ROWS");
        RelationalPages x = new RelationalPages();
        for (int n = 1; n <= 24; n++) {
            for (int t = 0; t < 3; t++) {
                due("row " + n + " of table " + t, x.insert(t, n, t, -n), n);
            }
        }
        for (int t = 0; t < 3; t++) {
            due("row 25 of table " + t, x.insert(t, 0, 0, 0), FULL);
            due("rows of table " + t, x.count(t, 1, t), 24);
            due("sum of table " + t, x.sum(t, 0, ALL, 0), 300);
            due("last column of table " + t, x.sum(t, 2, ALL, 0), -300);
        }
    }

    private static void numbersInColumns() {
        about("Terms", "a row has a number (-99 .. 99) in each of the COLUMNS 0, 1 and 2");
        RelationalPages x = new RelationalPages();
        for (int n = 0; n < 8; n++) {
            x.insert(0, (n & 4) == 0 ? -99 : 99, (n & 2) == 0 ? -99 : 99, (n & 1) == 0 ? -99 : 99);
        }
        dueRows("the ends in each column", x, 0, -99, -99, -99, -99, -99, 99, -99, 99, -99, -99, 99, 99,
                99, -99, -99, 99, -99, 99, 99, 99, -99, 99, 99, 99);
        for (int n = -99; n <= 99; n++) {
            RelationalPages y = filled(1, n, -n, 0, 0, n, -n, -n, 0, n);
            for (int column = 0; column < 3; column++) {
                due(n + " in column " + column, y.count(1, column, n), n == 0 ? 3 : 1);
                due("numbers in column " + column, y.distinct(1, column), n == 0 ? 1 : 3);
                due("least in column " + column, y.kth(1, column, 0), n < 0 ? n : -n);
            }
        }
    }

    private static void rowsAlike() {
        about("Terms", "several rows may be alike, and count separately");
        RelationalPages x = new RelationalPages();
        for (int n = 1; n <= 24; n++) {
            due("alike row " + n, x.insert(2, 5, 6, 7), n);
        }
        due("count", x.count(2, 0, 5), 24);
        due("sum", x.sum(2, 1, 0, 5), 144);
        due("select", x.select(2, 2, 7, 1), 24);
        due("the first of them", x.row(0, 2), 7);
        due("the last of them", x.row(23, 2), 7);
        due("join", x.join(2, 2, 0), 576);
        due("joinSum", x.joinSum(2, 2, 0, 0), 576 * 25);
        due("different numbers", x.distinct(2, 0), 1);
        due("update", x.update(2, 0, 5, set(0, 4)), 24);
        due("delete", x.delete(2, 0, 4), 24);
    }

    /** Rows whose columns differ, so that a condition on a wrong column meets other rows. */
    private static RelationalPages columnsThatDiffer() {
        return filled(1, -1, 0, 1, 0, 1, -1, 0, 1, 1, 1, 1, 1, 1, -1, 1, 1, 1, 0);
    }

    private static void conditionOfColumnAndOp() {
        about("Terms", "A CONDITION is written as column + 3 * op");
        int[] meeting = {2, 1, 1, 1, 1, 1, 3, 4, 4, 4, 5, 5, 6, 6, 6};
        for (int condition = 0; condition < 15; condition++) {
            int want = meeting[condition];
            due("count, condition " + condition, columnsThatDiffer().count(1, condition, 0), want);
            due("select, condition " + condition, columnsThatDiffer().select(1, condition, 0, 0), want);
            due("delete, condition " + condition, columnsThatDiffer().delete(1, condition, 0), want);
            due("update, condition " + condition, columnsThatDiffer().update(1, condition, 0, set(0, 9)), want);
        }
        int[] sums = {0, -1, 1, -1, 1, 0, 3, 2, 1, 2, 3, 1, 2, 2, 2};
        for (int condition = 0; condition < 15; condition++) {
            due("sum, condition " + condition, columnsThatDiffer().sum(1, 0, condition, 0), sums[condition]);
        }
    }

    /** Counts the rows with -99, -1, 0, 1 and 99 that meet op with v, in each of the columns. */
    private static void dueMeeting(String name, int op, int v, int want) {
        for (int column = 0; column < 3; column++) {
            RelationalPages x = filled(0, -99, -99, -99, -1, -1, -1, 0, 0, 0, 1, 1, 1, 99, 99, 99);
            due("column " + column + " " + name + " " + v, x.count(0, column + 3 * op, v), want);
        }
    }

    private static void equal() {
        about("Terms", "equal to v (op 0)");
        int[] present = {-99, -1, 0, 1, 99};
        int[] absent = {MIN, -100, -98, -2, 2, 98, 100, MAX, 256, -256, 65536 - 99};
        for (int v : present) {
            dueMeeting("equal to", 0, v, 1);
        }
        for (int v : absent) {
            dueMeeting("equal to", 0, v, 0);
        }
    }

    private static void less() {
        about("Terms", "less than v (op 1)");
        int[] numbers = {MIN, -100, -99, -98, -1, 0, 1, 2, 99, 100, MAX};
        int[] meeting = {0, 0, 0, 1, 1, 2, 3, 4, 4, 5, 5};
        for (int i = 0; i < numbers.length; i++) {
            dueMeeting("less than", 1, numbers[i], meeting[i]);
        }
    }

    private static void greater() {
        about("Terms", "greater than v (op 2)");
        int[] numbers = {MIN, -100, -99, -98, -1, 0, 1, 2, 99, 100, MAX};
        int[] meeting = {5, 5, 4, 4, 3, 2, 1, 1, 0, 0, 0};
        for (int i = 0; i < numbers.length; i++) {
            dueMeeting("greater than", 2, numbers[i], meeting[i]);
        }
    }

    private static void not() {
        about("Terms", "or not v (op 3)");
        for (int v : new int[] {-99, -1, 0, 1, 99}) {
            dueMeeting("not", 3, v, 4);
        }
        for (int v : new int[] {MIN, -100, -98, 2, 98, 100, MAX}) {
            dueMeeting("not", 3, v, 5);
        }
    }

    private static void everyRow() {
        about("Terms", "for op 4 every row does (column and v do not matter then)");
        for (int v : new int[] {MIN, -100, -99, -1, 0, 1, 99, 100, MAX}) {
            dueMeeting("and every row with", 4, v, 5);
        }
        for (int condition = 12; condition < 15; condition++) {
            due("delete, condition " + condition, withMany(0, 24).delete(0, condition, MIN), 24);
            due("update, condition " + condition, withMany(0, 24).update(0, condition, MAX, 0), 24);
            due("select, condition " + condition, withMany(0, 24).select(0, condition, -7, 0), 24);
            due("sum, condition " + condition, withMany(0, 24).sum(0, 0, condition, 7), 276);
            due("empty table, condition " + condition, withMany(0, 24).count(1, condition, 0), 0);
        }
    }

    private static void puttingIn() {
        about("Terms", "A CHANGE is putting a row in");
        RelationalPages x = opened(0, 0, 0);
        x.insert(0, 1, 1, 1);
        due("one row", x.commit(), 1);
        x.begin();
        x.insert(0, 1, 1, 1);
        x.insert(1, 1, 1, 1);
        due("a row alike, and one in another table", x.rollback(), 2);
    }

    private static void takingOut() {
        about("Terms", "taking a row out");
        RelationalPages x = opened(0, 0, 24);
        x.delete(0, 0, 0);
        due("one row", x.rollback(), 1);
        x.begin();
        x.delete(0, ALL, 0);
        due("24 rows by one call", x.rollback(), 24);
        x.delete(0, 0, 23);
        x.begin();
        x.insert(0, 1, 1, 1);
        x.delete(0, 1, 1);
        due("a row put in and taken out counts twice", x.commit(), 2);
    }

    private static void writing() {
        about("Terms", "or writing a number into a row");
        RelationalPages x = opened(0, 0, 24);
        x.update(0, 0, 5, set(1, 8));
        due("one row", x.commit(), 1);
        x.begin();
        x.update(0, ALL, 0, set(2, 8));
        due("24 rows by one call", x.crash(), 24);
        x.begin();
        x.update(0, 0, 5, set(1, 9));
        x.update(0, 0, 5, set(1, 8));
        due("there and back again counts twice", x.commit(), 2);
    }

    private static void writingWhatWasThere() {
        about("Terms", "(also when it was there already)");
        RelationalPages x = opened(0, 0, 24);
        due("update", x.update(0, ALL, 0, set(1, 0)), 24);
        due("6 more", x.update(0, 3, 6, set(1, 0)), 6);
        due("change 31", x.update(0, 0, 6, set(1, 0)), FULL);
        due("changes", x.commit(), 30);
        x.begin();
        due("one of the 12 rows has it", x.update(0, 3, 12, set(0, 3)), 12);
        due("changes", x.rollback(), 12);
    }

    private static void noChange() {
        about("Terms", "A CHANGE is putting a row in, taking a row out, or writing a number into a row");
        RelationalPages x = opened(3, 0, 24);
        x.insert(0, 0, 0, 0);
        x.insert(1, 100, 0, 0);
        x.delete(0, 15, 0);
        x.delete(0, 0, 50);
        x.delete(1, ALL, 0);
        x.update(0, 0, 50, 0);
        x.update(0, ALL, 0, 597);
        x.begin();
        x.index(0, 0, true);
        x.select(0, ALL, 0, 0);
        x.row(0, 0);
        x.count(0, ALL, 0);
        x.sum(0, 0, ALL, 0);
        x.join(0, 0, 0);
        x.joinSum(0, 0, 0, 0);
        x.distinct(0, 0);
        x.kth(0, 0, 0);
        due("only the three before count", x.commit(), 3);
    }

    private static void openBetween() {
        about("Terms", "Between begin and commit or rollback a TRANSACTION is OPEN");
        RelationalPages x = new RelationalPages();
        due("commit before begin", x.commit(), BAD);
        due("rollback before begin", x.rollback(), BAD);
        x.begin();
        x.insert(0, 1, 1, 1);
        due("begin between", x.begin(), false);
        due("commit", x.commit(), 1);
        due("commit after commit", x.commit(), BAD);
        due("rollback after commit", x.rollback(), BAD);
        x.begin();
        due("begin between", x.begin(), false);
        due("rollback", x.rollback(), 0);
        due("rollback after rollback", x.rollback(), BAD);
        due("commit after rollback", x.commit(), BAD);
        due("the row of the first", x.count(0, ALL, 0), 1);
    }

    private static void atMost30Changes() {
        about("Terms", "it can make at most 30 changes");
        RelationalPages x = opened(29, 0, 2);
        due("two more after 29", x.delete(0, ALL, 0), FULL);
        due("one more after 29", x.delete(0, 0, 1), 1);
        due("insert after 30", x.insert(0, 1, 1, 1), FULL);
        due("delete after 30", x.delete(0, 0, 0), FULL);
        due("update after 30", x.update(0, 0, 0, 0), FULL);
        due("changes", x.commit(), 30);
        due("afterwards", x.update(0, ALL, 0, 0), 1);
        x.begin();
        due("the next one starts anew", x.insert(0, 1, 1, 1), 2);
        due("changes of the next one", x.commit(), 1);
    }

    private static void changesOfAllTablesCount() {
        about("Terms", "it can make at most 30 changes");
        RelationalPages x = withMany(0, 10);
        putMany(x, 1, 10);
        x.begin();
        due("10 in table 0", x.delete(0, ALL, 0), 10);
        due("10 in table 1", x.update(1, ALL, 0, 0), 10);
        for (int n = 1; n <= 10; n++) {
            due("row " + n + " in table 2", x.insert(2, n, n, n), n);
        }
        for (int t = 0; t < 3; t++) {
            due("change 31 in table " + t, x.insert(t, 0, 0, 0), FULL);
        }
        due("changes", x.rollback(), 30);
    }

    private static void changesOutsideDoNotCount() {
        about("Terms", "it can make at most 30 changes");
        RelationalPages x = withMany(0, 24);
        putMany(x, 1, 24);
        due("24 updates", x.update(0, ALL, 0, 0), 24);
        due("24 deletions", x.delete(1, ALL, 0), 24);
        due("begin after 96 changes", x.begin(), true);
        due("24 in the transaction", x.update(0, ALL, 0, 1), 24);
        due("commit", x.commit(), 24);
        due("24 after it", x.update(0, ALL, 0, 2), 24);
        due("24 more after it", x.delete(0, ALL, 0), 24);
        x.begin();
        due("none in the next one", x.rollback(), 0);
    }

    /** A transaction with each kind of change in each of the tables. */
    private static RelationalPages changedEverywhere() {
        RelationalPages x = filled(0, 1, 1, 1, 2, 2, 2);
        put(x, 1, 3, 3, 3, 4, 4, 4);
        put(x, 2, 5, 5, 5, 6, 6, 6);
        x.begin();
        for (int t = 0; t < 3; t++) {
            x.insert(t, 9, 9, 9);
            x.delete(t, 0, 1 + 2 * t);
            x.update(t, ALL, 0, set(t, -9));
            x.insert(t, 8, 8, 8);
        }
        return x;
    }

    private static void dueAsBeforeTheChanges(String what, RelationalPages x) {
        dueRows(what, x, 0, 1, 1, 1, 2, 2, 2);
        dueRows(what, x, 1, 3, 3, 3, 4, 4, 4);
        dueRows(what, x, 2, 5, 5, 5, 6, 6, 6);
    }

    private static void rollingBack() {
        about("Terms", "Rolling it back brings all three tables back to what they had when it began");
        RelationalPages x = changedEverywhere();
        dueRows("before", x, 0, -9, 2, 2, -9, 9, 9, 8, 8, 8);
        dueRows("before", x, 1, 4, -9, 4, 8, 8, 8, 9, -9, 9);
        dueRows("before", x, 2, 6, 6, -9, 8, 8, 8, 9, 9, -9);
        due("rollback", x.rollback(), 15);
        dueAsBeforeTheChanges("back", x);
        due("number of rows", x.insert(1, 7, 7, 7), 3);
    }

    private static void rollingBackEdges() {
        about("Terms", "Rolling it back brings all three tables back to what they had when it began");
        dueBackAtTheEdges(RelationalPages::rollback);
    }

    private static void dueBackAtTheEdges(ToIntFunction<RelationalPages> end) {
        RelationalPages full = withMany(0, 24);
        full.begin();
        full.delete(0, ALL, 0);
        put(full, 0, 1, 1, 1, 2, 2, 2, 3, 3, 3, 4, 4, 4, 5, 5, 5, 6, 6, 6);
        due("30 changes", end.applyAsInt(full), 30);
        due("a full table is full again", full.insert(0, 0, 0, 0), FULL);
        due("its rows", stateOf(full), stateOf(withMany(0, 24)));
        RelationalPages empty = new RelationalPages();
        empty.begin();
        putMany(empty, 2, 24);
        due("24 changes", end.applyAsInt(empty), 24);
        due("an empty table is empty again", empty.count(2, ALL, 0), 0);
        due("its first row", empty.insert(2, 1, 1, 1), 1);
        RelationalPages none = withMany(1, 3);
        none.begin();
        due("no changes", end.applyAsInt(none), 0);
        due("nothing to bring back", stateOf(none), stateOf(withMany(1, 3)));
    }

    private static void breakdown() {
        about("Terms", "so does a BREAKDOWN while one is open");
        RelationalPages x = changedEverywhere();
        due("crash", x.crash(), 15);
        dueAsBeforeTheChanges("back", x);
        due("number of rows", x.insert(1, 7, 7, 7), 3);
    }

    private static void breakdownEdges() {
        about("Terms", "so does a BREAKDOWN while one is open");
        dueBackAtTheEdges(RelationalPages::crash);
    }

    private static void notLostBefore() {
        about("Terms", "but nothing that was done before it began [..] is lost by that");
        for (int way = 0; way < 2; way++) {
            RelationalPages x = withMany(0, 3);
            x.begin();
            x.insert(1, 1, 1, 1);
            x.commit();
            x.update(0, 0, 2, set(1, 7));
            x.delete(0, 0, 0);
            x.begin();
            x.delete(0, ALL, 0);
            x.delete(1, ALL, 0);
            due("3 changes", way == 0 ? x.rollback() : x.crash(), 3);
            dueRows("done outside", x, 0, 1, 0, -1, 2, 7, -2);
            dueRows("committed", x, 1, 1, 1, 1);
        }
    }

    private static void notLostOutside() {
        about("Terms", "or while none was open, is lost by that");
        RelationalPages x = withMany(0, 2);
        x.begin();
        x.insert(0, 5, 5, 5);
        x.rollback();
        x.insert(1, 1, 1, 1);
        x.delete(0, 0, 0);
        due("breakdown after a rollback", x.crash(), 0);
        x.update(1, ALL, 0, set(2, 9));
        due("rollback without a transaction", x.rollback(), BAD);
        due("breakdown after a breakdown", x.crash(), 0);
        x.begin();
        x.insert(2, 4, 4, 4);
        x.commit();
        x.insert(2, 3, 3, 3);
        due("breakdown after a commit", x.crash(), 0);
        dueRows("stays", x, 0, 1, 0, -1);
        dueRows("stays", x, 1, 1, 1, 9);
        dueRows("stays", x, 2, 3, 3, 3, 4, 4, 4);
    }

    private static void emptyResultAtFirst() {
        about("Terms", "The RESULT is a list of rows, empty at first");
        RelationalPages x = withMany(0, 24);
        for (int i = -1; i <= 24; i++) {
            for (int column = 0; column < 3; column++) {
                due("row " + i + ", column " + column, x.row(i, column), BAD);
            }
        }
        x.select(0, 0, 0, 0);
        dueResult("the first selection", x, 0, 0, 0);
    }
}
