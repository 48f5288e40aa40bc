import java.util.function.Supplier;
import java.util.function.ToIntFunction;

/** The edges that promises 1 to 9 name, sentence by sentence. */
public final class RelationalPagesChangeEdges extends Checks {
    public static void main(String[] args) throws Exception {
        runAll(RelationalPagesChangeEdges.class);
    }

    private static void newTablesAreEmpty() {
        about(1, "All tables empty");
        RelationalPages x = new RelationalPages();
        for (int t = 0; t < 3; t++) {
            due("count", x.count(t, ALL, 0), 0);
            due("select", x.select(t, ALL, 0, 0), 0);
            due("sum", x.sum(t, 0, ALL, 0), 0);
            due("delete", x.delete(t, ALL, 0), 0);
            due("update", x.update(t, ALL, 0, 0), 0);
            for (int u = 0; u < 3; u++) {
                due("join", x.join(t, u, 0), 0);
                due("joinSum", x.joinSum(t, u, 0, 0), 0);
                due("distinct", x.distinct(t, u), 0);
                due("kth", x.kth(t, u, 0), BAD);
            }
        }
        for (int t = 0; t < 3; t++) {
            due("first row of table " + t, x.insert(t, 1, 1, 1), 1);
            due("table " + t + " of another object", new RelationalPages().count(t, ALL, 0), 0);
        }
    }

    private static void newHasNoTransaction() {
        about(1, "no transaction open");
        due("commit", new RelationalPages().commit(), BAD);
        due("rollback", new RelationalPages().rollback(), BAD);
        due("crash", new RelationalPages().crash(), 0);
        due("begin", new RelationalPages().begin(), true);
        RelationalPages x = withMany(0, 24);
        due("more than 30 changes", x.delete(0, ALL, 0), 24);
        new RelationalPages().begin();
        due("begin of another object", new RelationalPages().begin(), true);
    }

    private static void newHasNoIndex() {
        about(1, "no index");
        RelationalPages x = new RelationalPages();
        for (int t = 0; t < 3; t++) {
            for (int column = 0; column < 3; column++) {
                due("giving up what is not there", x.index(t, column, false), true);
            }
        }
    }

    private static void newHasAnEmptyResult() {
        about(1, "an empty result");
        for (int column = 0; column < 3; column++) {
            due("row 0, column " + column, new RelationalPages().row(0, column), BAD);
            due("row 23, column " + column, new RelationalPages().row(23, column), BAD);
        }
        due("with rows in the tables", withMany(0, 24).row(0, 0), BAD);
        withMany(0, 24).select(0, ALL, 0, 0);
        due("of another object", withMany(0, 24).row(0, 0), BAD);
    }

    private static void insertAnswersTheNumberOfRows() {
        about(2, "Puts the row a, b, c into table t and answers the number of its rows then");
        for (int t = 0; t < 3; t++) {
            RelationalPages x = new RelationalPages();
            for (int n = 1; n <= 24; n++) {
                due("row " + n + " of table " + t, x.insert(t, n, -n, n + 50), n);
            }
            x.select(t, ALL, 0, 0);
            for (int n = 1; n <= 24; n++) {
                due("a of row " + n, x.row(n - 1, 0), n);
                due("b of row " + n, x.row(n - 1, 1), -n);
                due("c of row " + n, x.row(n - 1, 2), n + 50);
            }
            x.delete(t, 6, 2);
            due("after a deletion", x.insert(t, 0, 0, 0), 3);
            x.begin();
            due("in a transaction", x.insert(t, 0, 0, 0), 4);
            x.rollback();
            due("after a rollback", x.insert(t, 0, 0, 0), 4);
        }
    }

    private static void insertIntoNoTable() {
        about(2, "BAD when t is not 0 .. 2");
        dueRange("table", 0, 2, (x, n) -> x.insert(n, 1, 1, 1));
        due("table 0", new RelationalPages().insert(0, 1, 1, 1), 1);
        due("table 2", new RelationalPages().insert(2, 1, 1, 1), 1);
    }

    private static void insertOfNoNumber() {
        about(2, "or a number is not -99 .. 99");
        dueRange("a", -99, 99, (x, n) -> x.insert(0, n, 1, 1));
        dueRange("b", -99, 99, (x, n) -> x.insert(0, 1, n, 1));
        dueRange("c", -99, 99, (x, n) -> x.insert(0, 1, 1, n));
        dueRange("all", -99, 99, (x, n) -> x.insert(0, n, n, n));
        for (int n : new int[] {-99, 99}) {
            due("a " + n, new RelationalPages().insert(0, n, 1, 1), 1);
            due("b " + n, new RelationalPages().insert(0, 1, n, 1), 1);
            due("c " + n, new RelationalPages().insert(0, 1, 1, n), 1);
        }
    }

    private static void insertIntoAFullTable() {
        about(2, "FULL when it has 24 rows");
        for (int t = 0; t < 3; t++) {
            int full = t;
            due("at 23 rows", withMany(t, 23).insert(t, 1, 1, 1), 24);
            dueUnchanged("at 24 rows", () -> withMany(full, 24), x -> x.insert(full, 1, 1, 1), FULL);
            due("another table", withMany(t, 24).insert((t + 1) % 3, 1, 1, 1), 1);
            due("the third table", withMany(t, 24).insert((t + 2) % 3, 1, 1, 1), 1);
        }
        dueUnchanged("in a transaction", () -> opened(2, 0, 24), x -> x.insert(0, 1, 1, 1), FULL);
        due("another table in a transaction", opened(2, 0, 24).insert(1, 1, 1, 1), 1);
        RelationalPages x = withMany(1, 24);
        x.delete(1, 0, 0);
        due("room is made", x.insert(1, 1, 1, 1), 24);
        due("and used up", x.insert(1, 1, 1, 1), FULL);
    }

    private static void insertAfter30Changes() {
        about(2, "or the open transaction has made 30 changes");
        due("after 29", opened(29, 0, 0).insert(0, 1, 1, 1), 1);
        for (int t = 0; t < 3; t++) {
            int into = t;
            dueUnchanged("after 30", () -> opened(30, 0, 0), x -> x.insert(into, 1, 1, 1), FULL);
        }
        dueUnchanged("a full table after 30", () -> opened(30, 0, 24), x -> x.insert(0, 1, 1, 1), FULL);
        RelationalPages x = opened(29, 0, 0);
        x.insert(0, 1, 1, 1);
        due("once more", x.insert(0, 1, 1, 1), FULL);
        due("changes", x.commit(), 30);
        due("when none is open", x.insert(0, 1, 1, 1), 2);
        RelationalPages y = opened(30, 0, 0);
        y.rollback();
        due("after a rollback", y.insert(0, 1, 1, 1), 1);
        RelationalPages z = opened(30, 0, 0);
        z.crash();
        z.begin();
        due("in the next transaction", z.insert(0, 1, 1, 1), 1);
    }

    private static void insertTestsBadFirst() {
        about(2, "Tested in this order: BAD [..]; FULL");
        dueBadFirst("table", outside(0, 2), (x, n) -> x.insert(n, 0, 0, 0));
        dueBadFirst("a", outside(-99, 99), (x, n) -> x.insert(0, n, 0, 0));
        dueBadFirst("b", outside(-99, 99), (x, n) -> x.insert(0, 0, n, 0));
        dueBadFirst("c", outside(-99, 99), (x, n) -> x.insert(0, 0, 0, n));
    }

    private static RelationalPages threeTables() {
        RelationalPages x = filled(0, 1, 1, 1);
        put(x, 1, 1, 5, 20, 2, 6, 21, 1, 7, 22, 3, 8, 23, 1, 9, 24);
        put(x, 2, 1, 2, 2);
        return x;
    }

    private static void deleteTakesAllOut() {
        about(3, "Takes all rows of table t that meet the condition out");
        RelationalPages x = threeTables();
        due("first, middle and last", x.delete(1, 0, 1), 3);
        dueRows("the others stay", x, 1, 2, 6, 21, 3, 8, 23);
        dueRows("the table before", x, 0, 1, 1, 1);
        dueRows("the table after", x, 2, 1, 2, 2);
        RelationalPages y = threeTables();
        due("all but the first", y.delete(1, 7, 5), 4);
        dueRows("the first stays", y, 1, 1, 5, 20);
        RelationalPages z = threeTables();
        due("all but the last", z.delete(1, 4, 9), 4);
        dueRows("the last stays", z, 1, 1, 9, 24);
        due("the last one", z.delete(1, ALL, 0), 1);
        dueRows("none stays", z, 1);
    }

    private static void deleteAnswersHowMany() {
        about(3, "and answers how many they were");
        for (int t = 0; t < 3; t++) {
            due("an empty table", new RelationalPages().delete(t, ALL, 0), 0);
            due("a full table", withMany(t, 24).delete(t, ALL, 0), 24);
            due("all but one", withMany(t, 24).delete(t, 9, 0), 23);
            due("one", withMany(t, 24).delete(t, 0, 23), 1);
            int of = t;
            dueUnchanged("none meets", () -> withMany(of, 24), x -> x.delete(of, 0, 24), 0);
        }
        for (int v : outside(-99, 99)) {
            due("v " + v + " is no wrong input", withMany(0, 24).delete(0, 9, v), 24);
        }
    }

    private static void dueBadFirst(String what, int[] wrong, Call call) {
        for (int n : wrong) {
            due(what + " " + n + ", 30 changes", call.answer(opened(30, 0, 3), n), BAD);
            due(what + " " + n + ", full table", call.answer(withMany(0, 24), n), BAD);
            due(what + " " + n + ", both", call.answer(opened(30, 0, 24), n), BAD);
        }
    }

    private static void deleteIsBad() {
        about(3, "BAD when t is not 0 .. 2 or condition is not 0 .. 14");
        dueRange("table", 0, 2, (x, n) -> x.delete(n, ALL, 0));
        dueRange("condition", 0, 14, (x, n) -> x.delete(0, n, 0));
        due("condition 0", withMany(0, 3).delete(0, 0, 2), 1);
        due("condition 14", withMany(0, 3).delete(0, 14, 2), 3);
        due("table 0", withMany(0, 3).delete(0, ALL, 0), 3);
        due("table 2", withMany(2, 3).delete(2, ALL, 0), 3);
    }

    /** Calls that change 1, 2, 6, 7 and 24 rows of table 0, and one that changes none. */
    private static void dueFull(Call below, Call all) {
        due("29 and 1", below.answer(opened(29, 0, 24), 1), 1);
        due("28 and 2", below.answer(opened(28, 0, 24), 2), 2);
        due("24 and 6", below.answer(opened(24, 0, 24), 6), 6);
        due("6 and 24", all.answer(opened(6, 0, 24), 0), 24);
        due("30 and none", below.answer(opened(30, 0, 24), 0), 0);
        due("30 and an empty table", all.answer(opened(30, 1, 24), 0), 0);
        Supplier<RelationalPages> with29 = () -> opened(29, 0, 24);
        Supplier<RelationalPages> with30 = () -> opened(30, 0, 24);
        dueUnchanged("29 and 2", with29, x -> below.answer(x, 2), FULL);
        dueUnchanged("29 and 24", with29, x -> all.answer(x, 0), FULL);
        dueUnchanged("30 and 1", with30, x -> below.answer(x, 1), FULL);
        dueUnchanged("24 and 7", () -> opened(24, 0, 24), x -> below.answer(x, 7), FULL);
        dueUnchanged("7 and 24", () -> opened(7, 0, 24), x -> all.answer(x, 0), FULL);
        RelationalPages x = opened(29, 0, 24);
        due("29 and 2 again", below.answer(x, 2), FULL);
        due("29 and 1 after the refused call", below.answer(x, 1), 1);
        due("changes", x.commit(), 30);
        due("when none is open", all.answer(x, 0) >= 23, true);
    }

    private static void deleteIsFull() {
        about(3, "FULL, changing nothing, when the open transaction would have made more than 30 changes then");
        dueFull((x, n) -> x.delete(0, 3, n), (x, n) -> x.delete(0, ALL, n));
    }

    private static void deleteTestsBadFirst() {
        about(3, "Tested in this order: BAD [..]; FULL");
        dueBadFirst("table", outside(0, 2), (x, n) -> x.delete(n, ALL, 0));
        dueBadFirst("condition", outside(0, 14), (x, n) -> x.delete(0, n, 0));
    }

    private static void updateWritesEverySet() {
        about(4, "where set is x + 3 * (w + 99) (0 .. 596)");
        for (int set = 0; set <= 596; set++) {
            RelationalPages x = filled(0, 50, 51, 52);
            int[] want = {50, 51, 52};
            want[set % 3] = set / 3 - 99;
            due("set " + set, x.update(0, ALL, 0, set), 1);
            dueRows("set " + set, x, 0, want);
        }
    }

    private static void updateWritesAllThatMeet() {
        about(4, "Writes w into column x of all rows of table t that meet the condition");
        RelationalPages x = threeTables();
        due("first, middle and last", x.update(1, 0, 1, set(2, -99)), 3);
        dueRows("the others stay", x, 1, 1, 5, -99, 1, 7, -99, 1, 9, -99, 2, 6, 21, 3, 8, 23);
        dueRows("the table before", x, 0, 1, 1, 1);
        dueRows("the table after", x, 2, 1, 2, 2);
        RelationalPages y = threeTables();
        due("the column of the condition", y.update(1, 4, 8, set(1, 99)), 3);
        dueRows("written", y, 1, 1, 9, 24, 1, 99, 20, 1, 99, 22, 2, 99, 21, 3, 8, 23);
        due("still meeting it", y.update(1, 7, 50, set(1, 98)), 3);
        due("all 24", withMany(2, 24).update(2, ALL, 0, 0), 24);
    }

    private static void updateAnswersHowMany() {
        about(4, "and answers how many they were");
        for (int t = 0; t < 3; t++) {
            int of = t;
            due("an empty table", new RelationalPages().update(t, ALL, 0, 0), 0);
            due("a full table", withMany(t, 24).update(t, ALL, 0, 0), 24);
            due("one", withMany(t, 24).update(t, 0, 23, 0), 1);
            due("what was there already", withMany(t, 24).update(t, ALL, 0, set(1, 0)), 24);
            dueUnchanged("none meets", () -> withMany(of, 24), x -> x.update(of, 0, 24, 0), 0);
        }
        for (int v : outside(-99, 99)) {
            due("v " + v + " is no wrong input", withMany(0, 24).update(0, 9, v, 0), 24);
        }
    }

    private static void updateIsBad() {
        about(4, "BAD when t is not 0 .. 2, condition is not 0 .. 14 or set is not so");
        dueRange("table", 0, 2, (x, n) -> x.update(n, ALL, 0, 0));
        dueRange("condition", 0, 14, (x, n) -> x.update(0, n, 0, 0));
        dueRange("set", 0, 596, (x, n) -> x.update(0, ALL, 0, n));
        dueRange("set, when none meets,", 0, 596, (x, n) -> x.update(0, 0, 77, n));
        due("condition 0", withMany(0, 3).update(0, 0, 2, 0), 1);
        due("condition 14", withMany(0, 3).update(0, 14, 2, 596), 3);
        due("table 0", withMany(0, 3).update(0, ALL, 0, 596), 3);
        due("table 2", withMany(2, 3).update(2, ALL, 0, 0), 3);
    }

    private static void updateIsFull() {
        about(4, "FULL as in delete");
        dueFull((x, n) -> x.update(0, 3, n, set(1, 7)), (x, n) -> x.update(0, ALL, n, set(1, 7)));
        dueFull((x, n) -> x.update(0, 3, n, set(1, 0)), (x, n) -> x.update(0, ALL, n, set(1, 0)));
    }

    private static void updateTestsBadFirst() {
        about(4, "Tested in this order: BAD [..]; FULL");
        dueBadFirst("table", outside(0, 2), (x, n) -> x.update(n, ALL, 0, 0));
        dueBadFirst("condition", outside(0, 14), (x, n) -> x.update(0, n, 0, 0));
        dueBadFirst("set", outside(0, 596), (x, n) -> x.update(0, ALL, 0, n));
    }

    private static int beginOf(RelationalPages x) {
        return x.begin() ? 1 : 0;
    }

    private static void beginOpens() {
        about(5, "Opens a transaction and answers true");
        due("with empty tables", new RelationalPages().begin(), true);
        RelationalPages x = withMany(0, 24);
        x.select(0, 0, 7, 0);
        due("with a full table", x.begin(), true);
        dueResult("the result stays", x, 7, 0, -7);
        due("open", x.commit(), 0);
        due("after a commit", x.begin(), true);
        x.rollback();
        due("after a rollback", x.begin(), true);
        x.crash();
        due("after a breakdown", x.begin(), true);
        RelationalPages refused = new RelationalPages();
        refused.commit();
        refused.rollback();
        due("after a refused commit and rollback", refused.begin(), true);
    }

    private static void beginWhileOpen() {
        about(5, "false when one is open");
        for (int changes : new int[] {0, 1, 29, 30}) {
            dueUnchanged("after " + changes, () -> opened(changes, 0, 3), RelationalPagesChangeEdges::beginOf, 0);
        }
        RelationalPages x = opened(0, 0, 3);
        x.delete(0, ALL, 0);
        due("twice", x.begin(), false);
        due("three times", x.begin(), false);
        due("one rollback ends it", x.rollback(), 3);
        due("the first begin counts", x.count(0, ALL, 0), 3);
        due("none is left", x.rollback(), BAD);
        RelationalPages y = opened(29, 0, 3);
        y.begin();
        y.insert(0, 1, 1, 1);
        due("no new room", y.insert(0, 1, 1, 1), FULL);
    }

    private static void commitKeeps() {
        about(6, "Ends the open transaction, whose changes stay");
        RelationalPages x = opened(0, 0, 3);
        x.insert(1, 1, 1, 1);
        x.delete(0, 0, 0);
        x.update(2, ALL, 0, set(2, 9));
        x.select(2, ALL, 0, 0);
        due("changes", x.commit(), 3);
        dueResult("the result stays", x, 1, 2, 9);
        due("it is ended", x.commit(), BAD);
        due("a rollback finds none", x.rollback(), BAD);
        due("nor does a breakdown", x.crash(), 0);
        x.begin();
        x.delete(1, ALL, 0);
        x.rollback();
        dueRows("stays", x, 0, 1, 0, -1, 2, 0, -2);
        dueRows("stays", x, 1, 1, 1, 1);
        dueRows("stays", x, 2, 1, 2, 9);
    }

    private static void dueChanges(ToIntFunction<RelationalPages> end) {
        for (int changes = 0; changes <= 30; changes++) {
            due(changes + " changes", end.applyAsInt(opened(changes, 0, 3)), changes);
        }
        RelationalPages x = opened(30, 0, 3);
        x.insert(0, 1, 1, 1);
        x.delete(0, ALL, 0);
        due("refused calls do not count", end.applyAsInt(x), 30);
        x.begin();
        due("the next one has made none", end.applyAsInt(x), 0);
        x.update(0, ALL, 0, 0);
        x.begin();
        due("nor do those between", end.applyAsInt(x), 0);
    }

    private static void dueRefusedOutside(ToIntFunction<RelationalPages> end) {
        dueUnchanged("a new object", RelationalPages::new, end, BAD);
        dueUnchanged("never opened", () -> selected(withMany(0, 3)), end, BAD);
        dueUnchanged("after a commit", () -> endedBy(RelationalPages::commit), end, BAD);
        dueUnchanged("after a rollback", () -> endedBy(RelationalPages::rollback), end, BAD);
        dueUnchanged("after a breakdown", () -> endedBy(RelationalPages::crash), end, BAD);
    }

    private static RelationalPages endedBy(ToIntFunction<RelationalPages> end) {
        RelationalPages x = opened(3, 0, 3);
        x.insert(0, 9, 9, 9);
        end.applyAsInt(x);
        x.insert(0, 8, 8, 8);
        return selected(x);
    }

    private static void commitAnswersHowMany() {
        about(6, "and answers how many it made");
        dueChanges(RelationalPages::commit);
    }

    private static void commitWithoutATransaction() {
        about(6, "BAD when none is open");
        dueRefusedOutside(RelationalPages::commit);
    }

    private static void rollbackBringsBack() {
        about(7, "Rolls the open transaction back");
        RelationalPages x = opened(0, 0, 2);
        x.insert(0, 5, 5, 5);
        x.insert(1, 1, 1, 1);
        x.delete(0, 0, 0);
        x.update(2, ALL, 0, set(2, 9));
        x.select(2, ALL, 0, 0);
        due("changes", x.rollback(), 4);
        dueResult("the result stays", x, 1, 2, 9);
        dueRows("back", x, 0, 0, 0, 0, 1, 0, -1);
        dueRows("back", x, 1);
        dueRows("back", x, 2, 1, 2, 3);
        due("it is ended", x.commit(), BAD);
        due("begin", x.begin(), true);
    }

    private static void rollbackAnswersHowMany() {
        about(7, "and answers how many changes it had made");
        dueChanges(RelationalPages::rollback);
    }

    private static void rollbackWithoutATransaction() {
        about(7, "BAD when none is open");
        dueRefusedOutside(RelationalPages::rollback);
    }

    private static void crashEndsTheTransaction() {
        about(8, "no transaction is open then");
        for (int changes : new int[] {0, 29, 30}) {
            RelationalPages x = opened(changes, 0, 3);
            x.crash();
            due("commit", x.commit(), BAD);
            due("rollback", x.rollback(), BAD);
            due("crash", x.crash(), 0);
            due("more than 30 changes", x.update(0, ALL, 0, 0), 3);
            due("begin", x.begin(), true);
            due("changes", x.commit(), 0);
        }
        RelationalPages x = withMany(0, 3);
        x.crash();
        due("none before either", x.commit(), BAD);
    }

    private static void crashEmptiesTheResult() {
        about(8, "and the result is empty");
        for (int changes = 0; changes <= 30; changes += 15) {
            RelationalPages x = selected(opened(changes, 0, 24));
            x.crash();
            dueResult("open, " + changes + " changes", x);
            due("the last row", x.row(23, 2), BAD);
            due("a new selection", x.select(0, 3, 2, 0), 2);
            dueResult("a new selection", x, 0, 0, 0, 1, 0, -1);
        }
        RelationalPages x = selected(withMany(0, 24));
        x.crash();
        dueResult("none open", x);
        due("the last row", x.row(23, 2), BAD);
    }

    private static void crashAnswersHowMany() {
        about(8, "Answers how many changes the open transaction had made");
        dueChanges(RelationalPages::crash);
    }

    private static void crashWithoutATransaction() {
        about(8, "0 when none was open");
        dueUnchanged("a new object", RelationalPages::new, RelationalPages::crash, 0);
        dueUnchanged("full tables", () -> withMany(0, 24), RelationalPages::crash, 0);
        for (int way = 0; way < 3; way++) {
            RelationalPages x = opened(20, 0, 3);
            due("20 changes", way == 0 ? x.commit() : way == 1 ? x.rollback() : x.crash(), 20);
            x.insert(0, 1, 1, 1);
            due("crash", x.crash(), 0);
            due("nothing is lost", x.count(0, ALL, 0), 4);
        }
    }

    private static void indexAnswersTrue() {
        about(9, "Makes an index on a column of table t, or gives it up, and answers true");
        RelationalPages x = new RelationalPages();
        for (int t = 0; t < 3; t++) {
            for (int column = 0; column < 3; column++) {
                due("make", x.index(t, column, true), true);
                due("make again", x.index(t, column, true), true);
                due("give up", x.index(t, column, false), true);
                due("give up again", x.index(t, column, false), true);
            }
        }
        due("with a full table", withMany(2, 24).index(2, 2, true), true);
        due("after 30 changes", opened(30, 0, 3).index(0, 0, true), true);
    }

    private static void indexAnswersFalse() {
        about(9, "false when t or column is not 0 .. 2");
        for (int n : outside(0, 2)) {
            for (int on = 0; on < 2; on++) {
                boolean make = on == 1;
                dueUnchanged("table " + n, () -> opened(2, 0, 3), x -> x.index(n, 0, make) ? 1 : 0, 0);
                dueUnchanged("column " + n, () -> opened(2, 0, 3), x -> x.index(0, n, make) ? 1 : 0, 0);
                dueUnchanged("both " + n, () -> opened(2, 0, 3), x -> x.index(n, n, make) ? 1 : 0, 0);
            }
        }
    }

    /** Makes or gives up every index, in every place of the run that the number says. */
    private static void touchIndexes(RelationalPages x, int places, int place) {
        if ((places >> place & 1) == 0) {
            return;
        }
        for (int n = 0; n < 9; n++) {
            x.index(n / 3, n % 3, place % 2 == 0);
        }
    }

    private static String answersWithIndexes(int places) {
        RelationalPages x = new RelationalPages();
        touchIndexes(x, places, 0);
        putMany(x, 0, 6);
        put(x, 1, 1, 2, 3, 1, 5, 6);
        touchIndexes(x, places, 1);
        x.begin();
        touchIndexes(x, places, 2);
        x.update(0, 3, 3, set(0, 50));
        x.delete(1, 0, 1);
        String inside = x.join(0, 1, 0) + " " + x.kth(0, 0, 1) + " " + x.count(0, 0, 50) + " " + x.sum(0, 0, 6, 4);
        touchIndexes(x, places, 3);
        int ended = x.crash();
        touchIndexes(x, places, 4);
        x.update(0, 0, 4, set(0, 1));
        String after = x.join(0, 1, 0) + " " + x.joinSum(0, 1, 0, 3) + " " + x.distinct(0, 0) + " " + x.kth(0, 0, 2);
        return inside + " / " + ended + " / " + after + " / " + x.select(0, 6, 0, 2) + stateOf(x);
    }

    private static void indexChangesNoAnswer() {
        about(9, "(No other answer depends on it.)");
        due("what is answered without an index", answersWithIndexes(0).startsWith("0 4 3 155 / 5 / 4 14 5 2 / 5 "), true);
        for (int places = 1; places < 32; places++) {
            due("with indexes, places " + places, answersWithIndexes(places), answersWithIndexes(0));
        }
        dueUnchanged("no change of the tables or the result", () -> selected(opened(2, 0, 3)),
                x -> x.index(0, 0, true) ? 1 : 0, 1);
    }
}
