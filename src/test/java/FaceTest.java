import java.lang.reflect.Constructor;
import java.lang.reflect.Field;
import java.lang.reflect.Method;
import java.lang.reflect.Modifier;
import java.util.Arrays;
import java.util.HashSet;
import java.util.List;
import java.util.Set;
import java.util.TreeSet;

/** The public face has what the document lists and nothing more; fields keep to LANGUAGE.md. */
public final class FaceTest {
    private static final Due due = new Due();

    public static void main(String[] args) throws Exception {
        classItself();
        constants();
        methods();
        fields();
        due.end();
    }

    private static void classItself() {
        due.of("The public face", "public final class MarkovChecker");
        Class<?> type = MarkovChecker.class;
        due.same("public final", type.getModifiers(), Modifier.PUBLIC | Modifier.FINAL);
        due.same("nested classes", type.getDeclaredClasses().length, 0);
        Constructor<?>[] made = type.getDeclaredConstructors();
        due.same("constructors", made.length, 1);
        due.same("constructor", made[0].toString(), "public MarkovChecker(int)");
    }

    private static void constants() throws Exception {
        due.of("What it is", "Public constants.");
        Object[] wanted = {
            "OK", 0, "ERR_ARG", -1, "ERR_FULL", -2, "ERR_ROW", -3,
            "KIND_NONE", 0, "KIND_ATOM", 1, "KIND_NOT", 2, "KIND_AND", 3, "KIND_UNTIL", 4,
            "KIND_COMPARE", 5, "OP_GE", 0, "OP_GT", 1, "OP_LE", 2, "OP_LT", 3, "ATOM_TRUE", 4,
            "UNBOUNDED", -1, "MAX_BOUND", 8, "MAX_NODES", 16, "MIN_STATES", 2, "MAX_STATES", 12,
            "MAX_WEIGHT", 4, "MAX_ROW", 4, "LABELS", 4, "MAX_DEN", 1024
        };
        Set<String> names = new HashSet<>();
        for (int i = 0; i < wanted.length; i += 2) {
            Field field = MarkovChecker.class.getField((String) wanted[i]);
            due.same(field.getName(), field.get(null), wanted[i + 1]);
            due.same(field.getName() + " type", field.getType(), int.class);
            names.add(field.getName());
        }
        for (Field field : MarkovChecker.class.getDeclaredFields()) {
            boolean open = !Modifier.isPrivate(field.getModifiers());
            due.same(field.getName() + " is open", open, names.contains(field.getName()));
        }
    }

    private static void methods() {
        due.of("The public face", "public int stateCount(); ... public long probDen(int i, int s);");
        List<String> wanted = List.of(
            "int stateCount()", "int setWeight(int,int,int)", "int getWeight(int,int)",
            "int setLabel(int,int,boolean)", "int getLabels(int)", "int addAtom(int)", "int addNot(int)",
            "int addAnd(int,int)", "int addUntil(int,int,int)", "int addCompare(int,int,int,int)",
            "void clearFormulas()", "int nodeKind(int)", "int check()", "boolean holds(int,int)",
            "long probNum(int,int)", "long probDen(int,int)");
        Set<String> open = new TreeSet<>();
        Set<String> openNames = new HashSet<>();
        for (Method method : MarkovChecker.class.getDeclaredMethods()) {
            due.same(method.getName() + " has few parameters", method.getParameterCount() <= 7, true);
            if (!Modifier.isPrivate(method.getModifiers())) {
                open.add(method.toString());
                openNames.add(method.getName());
            }
        }
        Set<String> listed = new TreeSet<>();
        for (String one : wanted) {
            int space = one.indexOf(' ') + 1;
            listed.add("public " + one.substring(0, space) + "MarkovChecker." + one.substring(space));
        }
        due.same("open methods", open, listed);
        for (Method method : MarkovChecker.class.getDeclaredMethods()) {
            boolean hidden = Modifier.isPrivate(method.getModifiers());
            boolean named = openNames.contains(method.getName());
            due.same(method.getName() + " hides an open name", hidden && named, false);
        }
    }

    private static void fields() {
        due.of("LANGUAGE.md", "Types: int, long, short, byte, char, boolean, and one-dimensional arrays of these.");
        Set<Class<?>> numbers = new HashSet<>(Arrays.asList(
            int.class, long.class, short.class, byte.class, char.class, boolean.class));
        int own = 0;
        for (Field field : MarkovChecker.class.getDeclaredFields()) {
            Class<?> type = field.getType();
            int modifiers = field.getModifiers();
            if (Modifier.isStatic(modifiers)) {
                boolean plain = type == int.class || type == long.class;
                due.same(field.getName() + " is a constant", plain && Modifier.isFinal(modifiers), true);
            } else {
                own++;
                Class<?> part = type.isArray() ? type.getComponentType() : type;
                due.same(field.getName() + " is of an allowed type", numbers.contains(part), true);
            }
        }
        due.same("at most forty fields", own <= 40, true);
    }
}
