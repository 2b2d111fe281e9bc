import java.lang.reflect.Constructor;
import java.lang.reflect.Field;
import java.lang.reflect.Method;
import java.lang.reflect.Modifier;
import java.util.Arrays;
import java.util.Map;
import java.util.Set;
import java.util.TreeMap;
import java.util.TreeSet;

/** The public face of the document, and the rules of LANGUAGE.md that show in the compiled class. */
public final class FaceTest {
    private static final int MOST_FIELDS = 40;
    private static final int MOST_PARAMETERS = 7;

    private static final Map<String, Integer> CONSTANTS = new TreeMap<>(Map.ofEntries(
            Map.entry("OK", 0), Map.entry("WRONG", 1), Map.entry("FULL", 2), Map.entry("END", 3),
            Map.entry("PHASE", 4), Map.entry("DONE", 5), Map.entry("NONE", -1), Map.entry("KEY", 0),
            Map.entry("VALUE", 1), Map.entry("RUN", 2), Map.entry("ORIGIN", 3)));

    private static final Set<String> METHODS = new TreeSet<>(Set.of(
            "int put(int,int)", "int finish()", "int mergeOne()", "int mergePhase()", "int read()",
            "int readFrom(int)", "int rewind()", "void clear()", "int count()", "int field(int,int)",
            "int front()", "int runs()", "int level()", "int runsOn(int)", "int outputTape()",
            "int current(int)"));

    private static final Set<Class<?>> TYPES = Set.of(
            int.class, long.class, short.class, byte.class, char.class, boolean.class);

    private static final Due due = new Due();

    public static void main(String[] args) throws Exception {
        classItself();
        constants();
        methods();
        fields();
        due.end();
    }

    private static void classItself() {
        Class<?> c = PolyphaseSort.class;
        due.holds("the class is public", Modifier.isPublic(c.getModifiers()));
        due.holds("the class is final", Modifier.isFinal(c.getModifiers()));
        due.is("nested classes", c.getDeclaredClasses().length, 0);
        due.is("interfaces", c.getInterfaces().length, 0);
        due.holds("the class extends nothing", c.getSuperclass() == Object.class);
        Constructor<?>[] all = c.getDeclaredConstructors();
        due.is("constructors", all.length, 1);
        due.holds("the constructor is public", Modifier.isPublic(all[0].getModifiers()));
        due.holds("the constructor takes three ints", Arrays.equals(all[0].getParameterTypes(),
                new Class<?>[] {int.class, int.class, int.class}));
    }

    private static void constants() throws Exception {
        Set<String> seen = new TreeSet<>();
        for (Field f : PolyphaseSort.class.getDeclaredFields()) {
            if (Modifier.isPrivate(f.getModifiers())) {
                continue;
            }
            seen.add(f.getName());
            due.holds(f.getName() + " is public static final", (f.getModifiers()
                    & (Modifier.PUBLIC | Modifier.STATIC | Modifier.FINAL))
                    == (Modifier.PUBLIC | Modifier.STATIC | Modifier.FINAL));
            due.holds(f.getName() + " is an int", f.getType() == int.class);
            if (CONSTANTS.containsKey(f.getName()) && f.getType() == int.class) {
                due.is(f.getName(), f.getInt(null), CONSTANTS.get(f.getName()));
            }
        }
        due.holds("constants " + seen, seen.equals(CONSTANTS.keySet()));
    }

    private static void methods() {
        Set<String> seen = new TreeSet<>();
        Set<String> publicNames = new TreeSet<>();
        for (Method m : PolyphaseSort.class.getDeclaredMethods()) {
            due.holds(m.getName() + " has few parameters", m.getParameterCount() <= MOST_PARAMETERS);
            if (!Modifier.isPrivate(m.getModifiers())) {
                due.holds(m.getName() + " is public", Modifier.isPublic(m.getModifiers()));
                due.holds(m.getName() + " is not static", !Modifier.isStatic(m.getModifiers()));
                seen.add(describe(m));
                publicNames.add(m.getName());
            }
        }
        due.holds("methods " + seen, seen.equals(METHODS));
        for (Method m : PolyphaseSort.class.getDeclaredMethods()) {
            if (Modifier.isPrivate(m.getModifiers())) {
                due.holds(m.getName() + " is no public name", !publicNames.contains(m.getName()));
            }
        }
    }

    private static String describe(Method m) {
        StringBuilder s = new StringBuilder(m.getReturnType() + " " + m.getName() + "(");
        for (int i = 0; i < m.getParameterCount(); i++) {
            s.append(i == 0 ? "" : ",").append(m.getParameterTypes()[i]);
        }
        return s.append(")").toString();
    }

    private static void fields() {
        int own = 0;
        for (Field f : PolyphaseSort.class.getDeclaredFields()) {
            Class<?> type = f.getType();
            if (Modifier.isStatic(f.getModifiers())) {
                due.holds(f.getName() + " is a whole constant", Modifier.isFinal(f.getModifiers())
                        && (type == int.class || type == long.class));
                continue;
            }
            own++;
            Class<?> part = type.isArray() ? type.getComponentType() : type;
            due.holds(f.getName() + " is of an allowed type", TYPES.contains(part));
        }
        due.holds(own + " fields are not too many", own <= MOST_FIELDS);
    }
}
