import java.lang.reflect.Constructor;
import java.lang.reflect.Field;
import java.lang.reflect.Method;
import java.lang.reflect.Modifier;
import java.util.Map;
import java.util.Set;
import java.util.TreeMap;
import java.util.TreeSet;

/** The constants, and that the class shows the document's face and nothing more (rule 1). */
public final class FaceTest {
    private static final String[] FACE = {
        "int forward(int,boolean)", "int turn(int,boolean)", "int pen(boolean)",
        "int set(int,int,boolean)", "int add(int,int,boolean)", "int repeat(int,boolean)",
        "int word(int)", "int call(int)", "int end()", "int wipe()", "int write(int)",
        "int exercise(int,int,int)", "int allow(int,int,int)", "int handIn(int,int)",
        "boolean clear(int,boolean)", "int setWall(int,int)", "int drafted()", "int programs()",
        "int fault(int)", "int steps(int)", "int strokes(int)", "int strokesBySteps(int,int)",
        "boolean isDrawn(int,int,int,boolean)", "boolean areAlike(int,int)",
        "boolean haveOneForm(int,int)", "int likeness(int,int)", "int works()",
        "boolean meets(int)", "int copyOf(int)", "int hangs(int)", "int onWall(int,int)",
        "int hung(int)"};

    public static void main(String[] args) {
        methods();
        fields();
        classes();
        constants();
        Check.finish();
    }

    private static void constants() {
        Check.terms(31, "`NONE = -1`: There is none.");
        Check.due("NONE", TurtleChalk.NONE, -1);
        Check.terms(20, "`FINE = 0, LONG = 1, OFF = 2, RANGE = 3, DEEP = 4, UNKNOWN = 5`: Faults of runs.");
        Check.due("FINE", TurtleChalk.FINE, 0);
        Check.due("LONG", TurtleChalk.LONG, 1);
        Check.due("OFF", TurtleChalk.OFF, 2);
        Check.due("RANGE", TurtleChalk.RANGE, 3);
        Check.due("DEEP", TurtleChalk.DEEP, 4);
        Check.due("UNKNOWN", TurtleChalk.UNKNOWN, 5);
    }

    private static void methods() {
        Set<String> want = new TreeSet<>(Set.of(FACE));
        Set<String> names = new TreeSet<>();
        for (String method : FACE) {
            names.add(method.substring(method.indexOf(' ') + 1, method.indexOf('(')));
        }
        for (Method method : TurtleChalk.class.getDeclaredMethods()) {
            if (Modifier.isPrivate(method.getModifiers())) {
                Check.holds("no private " + method.getName(), !names.contains(method.getName()));
            } else {
                Check.holds("shown: " + describe(method), want.remove(describe(method)));
                Check.holds("public: " + method.getName(), Modifier.isPublic(method.getModifiers()));
                Check.holds("of the object: " + method.getName(),
                        !Modifier.isStatic(method.getModifiers()));
            }
        }
        Check.holds("none is missing: " + want, want.isEmpty());
    }

    private static String describe(Method method) {
        StringBuilder text = new StringBuilder();
        text.append(method.getReturnType().getName()).append(' ').append(method.getName());
        text.append('(');
        for (int i = 0; i < method.getParameterCount(); i++) {
            text.append(i == 0 ? "" : ",").append(method.getParameterTypes()[i].getName());
        }
        return text.append(')').toString();
    }

    private static void fields() {
        Map<String, Integer> shown = new TreeMap<>();
        for (Field field : TurtleChalk.class.getDeclaredFields()) {
            if (!Modifier.isPrivate(field.getModifiers())) {
                shown.put(field.getName(), field.getModifiers());
            }
        }
        Check.due("shown fields", shown.size(), 7);
        for (String name : new String[] {"NONE", "FINE", "LONG", "OFF", "RANGE", "DEEP", "UNKNOWN"}) {
            int want = Modifier.PUBLIC | Modifier.STATIC | Modifier.FINAL;
            Check.due("modifiers of " + name, shown.getOrDefault(name, 0), want);
        }
    }

    private static void classes() {
        int own = TurtleChalk.class.getModifiers();
        Check.holds("public and final", Modifier.isPublic(own) && Modifier.isFinal(own));
        Constructor<?>[] made = TurtleChalk.class.getDeclaredConstructors();
        Check.due("constructors", made.length, 1);
        Check.holds("a public one without parameters",
                Modifier.isPublic(made[0].getModifiers()) && made[0].getParameterCount() == 0);
        for (Class<?> inside : TurtleChalk.class.getDeclaredClasses()) {
            int modifiers = inside.getModifiers();
            Check.holds("static and not shown: " + inside.getName(), Modifier.isStatic(modifiers)
                    && !Modifier.isPublic(modifiers) && !Modifier.isProtected(modifiers));
        }
    }
}
