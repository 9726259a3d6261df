import java.lang.reflect.Constructor;
import java.lang.reflect.Field;
import java.lang.reflect.Method;
import java.lang.reflect.Modifier;
import java.util.Set;
import java.util.TreeSet;

/** The public face of the document, and LANGUAGE.md's rules 1, 2, 5 and 7 as far as a run can tell. */
public final class FaceTest {
    private static final Check CHECK = new Check("FaceTest");
    private static final Set<String> FACE = Set.of(
        "int add(int, int, int)", "int clear(int)", "boolean change(int, int, int, int)",
        "int go(int)", "int back()", "int now(int)", "int states()", "int endings()",
        "int ending(int)", "int soonest(int)", "int step(int, int)", "int race(int)",
        "int meet(int, int, int, int)", "int kinds()");
    private static final int[] ODD = {
        Integer.MIN_VALUE, -1000, -1, 0, 1, 2, 3, 4, 5, 6, 7, 8, 12, 16, 17, 1000, Integer.MAX_VALUE,
    };

    public static void main(String[] args) {
        methods();
        fields();
        oneClass();
        neverThrows("");
        neverThrows("7,0 10,0 3,1 8,0 0,2 | 7,0 3,0 11,0 8,0 | 10,0 11,1");
        neverThrows(Programs.TOO_MANY);
        CHECK.end();
    }

    private static void methods() {
        Set<String> found = new TreeSet<>();
        for (Method method : ScheduleLab.class.getDeclaredMethods()) {
            if (!Modifier.isPrivate(method.getModifiers())) {
                String types = "";
                for (Class<?> type : method.getParameterTypes()) {
                    types += (types.isEmpty() ? "" : ", ") + type;
                }
                found.add(method.getReturnType() + " " + method.getName() + "(" + types + ")");
            }
        }
        CHECK.due("the methods are those of the face: " + found, found.equals(FACE), true);
    }

    private static void fields() {
        Set<String> seen = new TreeSet<>();
        for (Field field : ScheduleLab.class.getDeclaredFields()) {
            int modifiers = field.getModifiers();
            if (!Modifier.isPrivate(modifiers)) {
                seen.add(field.getName());
            }
            boolean constant = Modifier.isFinal(modifiers) && !field.getType().isArray();
            CHECK.due(field + " if static is constant", !Modifier.isStatic(modifiers) || constant, true);
            Class<?> type = field.getType();
            Class<?> number = type.isArray() ? type.getComponentType() : type;
            CHECK.due(field + " is of numbers", number.isPrimitive(), true);
        }
        boolean same = seen.equals(Set.of("REFUSED", "MANY", "NEVER"));
        CHECK.due("the visible fields are the constants: " + seen, same, true);
    }

    private static void oneClass() {
        Class<?> lab = ScheduleLab.class;
        int modifiers = lab.getModifiers();
        CHECK.due("public", Modifier.isPublic(modifiers), true);
        CHECK.due("final", Modifier.isFinal(modifiers), true);
        CHECK.due("nested classes", lab.getDeclaredClasses().length, 0);
        Constructor<?>[] constructors = lab.getDeclaredConstructors();
        CHECK.due("constructors", constructors.length, 1);
        CHECK.due("its parameters", constructors[0].getParameterCount(), 0);
        CHECK.due("it is public", Modifier.isPublic(constructors[0].getModifiers()), true);
    }

    /** Every call with odd numbers, and again some steps later; an exception ends the test. */
    private static void neverThrows(String text) {
        ScheduleLab lab = Programs.lab(text);
        for (int round = 0; round < 6; round++) {
            for (int a : ODD) {
                lab.now(a);
                lab.ending(a);
                lab.soonest(a);
                lab.race(a);
                for (int b : ODD) {
                    lab.step(a, b);
                    lab.meet(a, b, 1, 0);
                    lab.meet(0, 5, a, b);
                }
            }
            lab.go(round % 3);
        }
        for (int a : ODD) {
            for (int b : ODD) {
                for (int c : ODD) {
                    lab.change(a, b, c, 0);
                    lab.change(a, 0, b, c);
                    lab.add(a, b, c);
                }
            }
            lab.go(a);
            lab.clear(a);
        }
    }
}
