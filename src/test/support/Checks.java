import java.lang.reflect.InvocationTargetException;
import java.lang.reflect.Method;
import java.util.Arrays;
import java.util.Comparator;
import java.util.function.Supplier;
import java.util.function.ToIntFunction;

/** What the tests share. They extend it, as nothing can be imported from a file without a package. */
class Checks {
    static final int BAD = -1000;
    static final int FULL = -2000;
    static final int MIN = Integer.MIN_VALUE;
    static final int MAX = Integer.MAX_VALUE;
    /** The condition that every row meets. */
    static final int ALL = 12;

    /** A call of which one argument, n, is tried with different numbers. */
    interface Call {
        int answer(RelationalPages x, int n);
    }

    private static int wrong = 0;
    private static String place = "";

    /** Says which words of the document the checks that follow are about. */
    static void about(int promise, String words) {
        place = "promise " + promise + ", \"" + words + "\"";
    }

    static void about(String section, String words) {
        place = section + ", \"" + words + "\"";
    }

    static void due(String call, Object got, Object want) {
        if (!got.equals(want)) {
            wrong++;
            System.out.println(place + ": " + call + " answered " + got + ", due is " + want);
        }
    }

    /**
     * Runs every method of the class that takes and answers nothing, so that none can be forgotten.
     * One that throws does not keep the others from running.
     */
    static void runAll(Class<?> tests) throws IllegalAccessException {
        Method[] methods = tests.getDeclaredMethods();
        Arrays.sort(methods, Comparator.comparing(Method::getName));
        int ran = 0;
        for (Method method : methods) {
            if (method.getParameterCount() == 0 && method.getReturnType() == void.class && !method.isSynthetic()) {
                ran++;
                runOne(method);
            }
        }
        System.out.println(ran + " tests, " + wrong + " answers that are not as due");
        if (wrong != 0 || ran == 0) {
            System.exit(1);
        }
    }

    private static void runOne(Method test) throws IllegalAccessException {
        place = test.getName();
        try {
            test.setAccessible(true);
            test.invoke(null);
        } catch (InvocationTargetException thrown) {
            wrong++;
            System.out.println(place + ": " + test.getName() + " threw " + thrown.getCause());
        }
    }

    static int set(int column, int number) {
        return column + 3 * (number + 99);
    }

    static RelationalPages filled(int t, int... numbers) {
        RelationalPages x = new RelationalPages();
        put(x, t, numbers);
        return x;
    }

    static void put(RelationalPages x, int t, int... numbers) {
        for (int i = 0; i < numbers.length; i += 3) {
            x.insert(t, numbers[i], numbers[i + 1], numbers[i + 2]);
        }
    }

    /** Puts in the rows n, 0, -n for n from 0 on. */
    static void putMany(RelationalPages x, int t, int rows) {
        for (int n = 0; n < rows; n++) {
            x.insert(t, n, 0, -n);
        }
    }

    static RelationalPages withMany(int t, int rows) {
        RelationalPages x = new RelationalPages();
        putMany(x, t, rows);
        return x;
    }

    /** An open transaction with so many changes, none of which is to be seen; table 2 has a row 1 2 3. */
    static RelationalPages opened(int changes, int t, int rows) {
        RelationalPages x = withMany(t, rows);
        x.insert(2, 1, 2, 3);
        x.begin();
        for (int n = 0; n < changes; n++) {
            x.update(2, ALL, 0, set(0, 1));
        }
        return x;
    }

    /** The same object, with the rows of table 0 as its result. */
    static RelationalPages selected(RelationalPages x) {
        x.select(0, ALL, 0, 0);
        return x;
    }

    /** Looks whether table t has just these rows; they are given in order. */
    static void dueRows(String what, RelationalPages x, int t, int... numbers) {
        due(what + ": rows of table " + t, x.select(t, ALL, 0, 0), numbers.length / 3);
        dueResult(what, x, numbers);
    }

    static void dueResult(String what, RelationalPages x, int... numbers) {
        for (int i = 0; i < numbers.length; i++) {
            due(what + ": row(" + i / 3 + ", " + i % 3 + ")", x.row(i / 3, i % 3), numbers[i]);
        }
        due(what + ": row after the last", x.row(numbers.length / 3, 0), BAD);
    }

    /** Looks whether a call gives this answer and leaves all as it is in an object without the call. */
    static void dueUnchanged(String what, Supplier<RelationalPages> make, ToIntFunction<RelationalPages> call, int want) {
        RelationalPages x = make.get();
        due(what, call.applyAsInt(x), want);
        due(what + ": what is to be seen afterwards", stateOf(x), stateOf(make.get()));
    }

    /** Numbers just outside a range, and as far outside as can be. */
    static int[] outside(int least, int greatest) {
        return new int[] {MIN, least - 1, greatest + 1, MAX};
    }

    /** Looks whether the call takes n from least to greatest, refuses others and changes nothing then. */
    static void dueRange(String what, int least, int greatest, Call call) {
        for (int n : new int[] {least, greatest}) {
            int answer = call.answer(selected(opened(2, 0, 3)), n);
            due(what + " " + n + " is refused", answer == BAD || answer == FULL, false);
        }
        for (int n : outside(least, greatest)) {
            dueUnchanged(what + " " + n, () -> selected(opened(2, 0, 3)), x -> call.answer(x, n), BAD);
            dueUnchanged(what + " " + n + ", full table", () -> withMany(0, 24), x -> call.answer(x, n), BAD);
            dueUnchanged(what + " " + n + ", new object", RelationalPages::new, x -> call.answer(x, n), BAD);
        }
    }

    /** All that an object has: the asking ends its transaction, and what that brings back is asked too. */
    static String stateOf(RelationalPages x) {
        String result = resultOf(x);
        return result + tablesOf(x) + " rollback " + x.rollback() + tablesOf(x);
    }

    static String tablesOf(RelationalPages x) {
        StringBuilder text = new StringBuilder();
        for (int t = 0; t < 3; t++) {
            text.append(" table ").append(x.select(t, ALL, 0, 0)).append(resultOf(x));
        }
        return text.toString();
    }

    static String resultOf(RelationalPages x) {
        StringBuilder text = new StringBuilder();
        for (int i = 0; x.row(i, 0) != BAD && i < 30; i++) {
            text.append(" [").append(x.row(i, 0)).append(' ').append(x.row(i, 1)).append(' ').append(x.row(i, 2)).append(']');
        }
        return text.toString();
    }
}
