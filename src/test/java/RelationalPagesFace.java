import java.lang.reflect.Constructor;
import java.lang.reflect.Field;
import java.lang.reflect.Method;
import java.lang.reflect.Modifier;
import java.nio.file.Files;
import java.nio.file.Path;
import java.util.Set;
import java.util.TreeSet;
import java.util.regex.Matcher;
import java.util.regex.Pattern;

/** The public face of the document, and those rules of LANGUAGE.md that a program can look up. */
public final class RelationalPagesFace extends Checks {
    private static final String SOURCE = "src/main/java/RelationalPages.java";
    private static final String FORBIDDEN = "import|package|throw|throws|try|catch|finally|synchronized|assert"
            + "|instanceof|null|float|double|String|Math|Integer|Long|System|Arrays|Object|enum|interface|record"
            + "|protected|volatile|native|var";
    private static final Set<String> TYPES = Set.of("int", "long", "short", "byte", "char", "boolean",
            "int[]", "long[]", "short[]", "byte[]", "char[]", "boolean[]");

    public static void main(String[] args) throws Exception {
        runAll(RelationalPagesFace.class);
    }

    private static void theClass() {
        about("The public face", "public final class RelationalPages");
        int modifiers = RelationalPages.class.getModifiers();
        due("modifiers of the class", Modifier.toString(modifiers), "public final");
        due("nested classes", RelationalPages.class.getDeclaredClasses().length, 0);
        due("superclass", RelationalPages.class.getSuperclass(), Object.class);
        due("interfaces", RelationalPages.class.getInterfaces().length, 0);
    }

    private static void theConstants() {
        about("The public face", "BAD = -1000; FULL = -2000");
        due("BAD", RelationalPages.BAD, -1000);
        due("FULL", RelationalPages.FULL, -2000);
        Set<String> seen = new TreeSet<>();
        for (Field field : RelationalPages.class.getDeclaredFields()) {
            if (!Modifier.isPrivate(field.getModifiers())) {
                seen.add(field.toString());
            }
        }
        due("visible fields", seen, new TreeSet<>(Set.of(
                "public static final int RelationalPages.BAD",
                "public static final int RelationalPages.FULL")));
    }

    private static void theConstructor() {
        about("The public face", "public RelationalPages()");
        Set<String> seen = new TreeSet<>();
        for (Constructor<?> constructor : RelationalPages.class.getDeclaredConstructors()) {
            seen.add(constructor.toString());
        }
        due("constructors", seen, new TreeSet<>(Set.of("public RelationalPages()")));
    }

    private static void theMethods() {
        about("The public face", "the public face");
        Set<String> seen = new TreeSet<>();
        for (Method method : RelationalPages.class.getDeclaredMethods()) {
            if (!Modifier.isPrivate(method.getModifiers())) {
                seen.add(method.toString().replace("RelationalPages.", ""));
            }
        }
        due("visible methods", seen, new TreeSet<>(Set.of(
                "public int insert(int,int,int,int)",
                "public int delete(int,int,int)",
                "public int update(int,int,int,int)",
                "public boolean begin()",
                "public int commit()",
                "public int rollback()",
                "public int crash()",
                "public boolean index(int,int,boolean)",
                "public int select(int,int,int,int)",
                "public int row(int,int)",
                "public int count(int,int,int)",
                "public int sum(int,int,int,int)",
                "public int join(int,int,int)",
                "public int joinSum(int,int,int,int)",
                "public int distinct(int,int)",
                "public int kth(int,int,int)")));
    }

    private static void thePrivateMembers() {
        about("LANGUAGE.md", "rules 1, 2, 4, 5 and 10");
        int fields = 0;
        for (Field field : RelationalPages.class.getDeclaredFields()) {
            String type = field.getType().getSimpleName();
            due("type " + type + " of " + field.getName() + " is allowed", TYPES.contains(type), true);
            if (Modifier.isStatic(field.getModifiers())) {
                due(field.getName() + " is a constant number", Modifier.isFinal(field.getModifiers())
                        && (type.equals("int") || type.equals("long")), true);
            } else {
                fields++;
            }
        }
        due("at most forty fields", fields <= 40, true);
        Set<String> names = new TreeSet<>();
        for (Method method : RelationalPages.class.getDeclaredMethods()) {
            due("the only method named " + method.getName(), names.add(method.getName()), true);
            due("at most seven parameters of " + method.getName(), method.getParameterCount() <= 7, true);
            due("answer of " + method.getName() + " is no array", method.getReturnType().isArray(), false);
        }
    }

    private static void theSource() throws Exception {
        about("LANGUAGE.md", "rules 2, 3, 4 and 6");
        String text = Files.readString(Path.of(SOURCE));
        String code = text.replaceAll("(?s)/\\*.*?\\*/", " ").replaceAll("//[^\n]*", " ");
        Matcher found = Pattern.compile("\\b(?:" + FORBIDDEN + ")\\b|->|::").matcher(code);
        while (found.find()) {
            due("a forbidden word", found.group(), "none");
        }
        Matcher made = Pattern.compile("(?m)^.*\\bnew\\b.*$").matcher(code);
        while (made.find()) {
            boolean field = made.group().matches("    private final \\w+\\[\\] \\w+ = new \\w+\\[\\w+\\];");
            due("made in a field's initialiser: " + made.group().trim(), field, true);
        }
    }
}
