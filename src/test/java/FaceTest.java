import java.lang.reflect.Constructor;
import java.lang.reflect.Field;
import java.lang.reflect.Method;
import java.lang.reflect.Modifier;
import java.util.Set;
import java.util.TreeSet;

/** The face of the class is that of the document, and nothing else of it is to be seen. */
public final class FaceTest {
    private static final String[] FACE = {
        "feed 1", "end 1", "text 0", "fault 0", "rule 1", "sign 2", "line 2", "row 2", "cell 2", "at 3", "to 2", "fold 2",
        "caret 1", "go 2", "step 1", "down 1", "edge 1", "type 1", "erase 0", "split 0", "undo 0", "redo 0", "wrap 2",
        "shut 2", "unwrap 1", "set 2", "keep 1", "back 1", "sheet 3", "lay 3", "paste 4"};

    private static int wrong = 0;

    public static void main(String[] args) {
        constants();
        methods();
        fields();
        classesInside();
        System.out.println(wrong == 0 ? "the face is as told" : wrong + " wrong");
        if (wrong != 0) System.exit(1);
    }

    private static void must(boolean holds, String what) {
        if (!holds) {
            wrong++;
            System.out.println(what);
        }
    }

    private static void constants() {
        must(FoldedRows.BAD == -1 && FoldedRows.STATE == -2 && FoldedRows.FULL == -3 && FoldedRows.NONE == -4, "constants");
        must(Modifier.isFinal(FoldedRows.class.getModifiers()), "the class is final");
        Constructor<?>[] made = FoldedRows.class.getDeclaredConstructors();
        must(made.length == 1 && Modifier.isPublic(made[0].getModifiers()) && made[0].getParameterCount() == 0, "constructor");
    }

    private static void methods() {
        Set<String> due = new TreeSet<>(Set.of(FACE));
        Set<String> names = new TreeSet<>();
        for (String each : FACE) names.add(each.split(" ")[0]);
        Set<String> seen = new TreeSet<>();
        for (Method m : FoldedRows.class.getDeclaredMethods()) {
            if (Modifier.isPublic(m.getModifiers())) {
                seen.add(m.getName() + " " + m.getParameterCount());
                must(m.getReturnType() == int.class, m + " answers an int");
                for (Class<?> p : m.getParameterTypes()) must(p == int.class, m + " takes ints");
            } else {
                must(Modifier.isPrivate(m.getModifiers()), m + " is private");
                must(!names.contains(m.getName()), m + " bears a public name");
            }
        }
        must(seen.equals(due), "methods are " + seen);
    }

    private static void fields() {
        Set<String> open = new TreeSet<>();
        for (Field f : FoldedRows.class.getDeclaredFields()) {
            if (!Modifier.isPrivate(f.getModifiers())) open.add(f.getName());
            if (Modifier.isStatic(f.getModifiers())) must(Modifier.isFinal(f.getModifiers()), f + " is final");
        }
        must(open.equals(new TreeSet<>(Set.of("BAD", "STATE", "FULL", "NONE"))), "fields are " + open);
    }

    private static void classesInside() {
        Class<?>[] inside = FoldedRows.class.getDeclaredClasses();
        must(inside.length <= 11, "some twelve classes in all, not " + (inside.length + 1));
        for (Class<?> c : inside) {
            int m = c.getModifiers();
            must(Modifier.isStatic(m) && !Modifier.isPublic(m) && !Modifier.isProtected(m), c + " is static, and not public");
            int fields = 0;
            for (Field f : c.getDeclaredFields()) if (!Modifier.isStatic(f.getModifiers())) fields++;
            must(fields <= 20, c + " has " + fields + " fields");
            for (Method method : c.getDeclaredMethods()) {
                must(method.getParameterCount() <= 7, method + " takes too many");
            }
        }
    }
}
