import java.lang.reflect.Constructor;
import java.lang.reflect.Field;
import java.lang.reflect.Method;
import java.lang.reflect.Modifier;
import java.util.Set;
import java.util.TreeSet;

/** The public face of the document: the members that stand there, and no other. */
public final class RelationalPagesFace extends Checks {
    public static void main(String[] args) throws Exception {
        runAll(RelationalPagesFace.class);
    }

    private static void theClass() {
        about("The public face", "public final class RelationalPages");
        int modifiers = RelationalPages.class.getModifiers();
        due("modifiers of the class", Modifier.toString(modifiers), "public final");
        due("nested classes", RelationalPages.class.getDeclaredClasses().length, 0);
        due("superclass", RelationalPages.class.getSuperclass(), Object.class);
        due("interfaces", RelationalPages.class.getInterfaces().length, 0);
    }

    private static void theConstants() {
        about("The public face", "BAD = -1000; FULL = -2000");
        due("BAD", RelationalPages.BAD, -1000);
        due("FULL", RelationalPages.FULL, -2000);
        Set<String> seen = new TreeSet<>();
        for (Field field : RelationalPages.class.getDeclaredFields()) {
            if (!Modifier.isPrivate(field.getModifiers())) {
                seen.add(field.toString());
            }
        }
        due("visible fields", seen, new TreeSet<>(Set.of(
                "public static final int RelationalPages.BAD",
                "public static final int RelationalPages.FULL")));
    }

    private static void theConstructor() {
        about("The public face", "public RelationalPages()");
        Set<String> seen = new TreeSet<>();
        for (Constructor<?> constructor : RelationalPages.class.getDeclaredConstructors()) {
            seen.add(constructor.toString());
        }
        due("constructors", seen, new TreeSet<>(Set.of("public RelationalPages()")));
    }

    private static void theMethods() {
        about("The public face", "the public face");
        Set<String> seen = new TreeSet<>();
        for (Method method : RelationalPages.class.getDeclaredMethods()) {
            if (!Modifier.isPrivate(method.getModifiers())) {
                seen.add(method.toString().replace("RelationalPages.", ""));
            }
        }
        due("visible methods", seen, new TreeSet<>(Set.of(
                "public int insert(int,int,int,int)",
                "public int delete(int,int,int)",
                "public int update(int,int,int,int)",
                "public boolean begin()",
                "public int commit()",
                "public int rollback()",
                "public int crash()",
                "public boolean index(int,int,boolean)",
                "public int select(int,int,int,int)",
                "public int row(int,int)",
                "public int count(int,int,int)",
                "public int sum(int,int,int,int)",
                "public int join(int,int,int)",
                "public int joinSum(int,int,int,int)",
                "public int distinct(int,int)",
                "public int kth(int,int,int)")));
    }
}
