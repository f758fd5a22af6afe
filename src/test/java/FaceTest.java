import java.lang.reflect.Constructor;
import java.lang.reflect.Field;
import java.lang.reflect.Method;
import java.lang.reflect.Modifier;
import java.util.Arrays;
import java.util.HashSet;
import java.util.List;
import java.util.Set;
import java.util.TreeSet;
import java.util.stream.Collectors;

/** The public face is the document's and nothing more (rule 1 of LANGUAGE.md); promise 1: nothing is told. */
public final class FaceTest {
    private static final String IOB = "IndexOutOfBoundsException";
    private static final String IAE = "IllegalArgumentException";
    private static final String UOE = "UnsupportedOperationException";
    private static final String NSE = "NoSuchElementException";

    private static final List<String> FACE = Arrays.asList(
        "int feed(int,int,int,int,int)",
        "boolean end(int)",
        "int town() " + IAE + " " + UOE,
        "int law() " + IAE,
        "int fault()",
        "int house(int,int) " + IOB + " " + NSE,
        "int want(int) " + IOB,
        "int code(int,int) " + IOB,
        "int cost(int) " + IAE,
        "int way(int,int,int) " + IOB + " " + NSE,
        "int ring(int,int,int) " + IOB + " " + IAE + " " + UOE,
        "int hush()",
        "int undo()",
        "int heard(int,int) " + IOB,
        "int taken(int,int) " + IOB,
        "int sure(int,boolean) " + IOB,
        "int begins(int) " + IOB,
        "boolean safe(int,int) " + IOB + " " + IAE,
        "int buy(int,int,int) " + IOB + " " + IAE,
        "void trade(int,int,int) " + IOB + " " + IAE,
        "int least(int)",
        "int colours(int) " + IOB,
        "int relay(int,int,int) " + IOB + " " + IAE,
        "int ringers(int,int) " + IOB + " " + IAE,
        "int six(int,int) " + IOB + " " + NSE,
        "int lot(int,int,int) " + IOB + " " + NSE,
        "int room(int,int,boolean) " + IOB + " " + IAE,
        "int learn(int) " + IAE,
        "int fooled(int,int,int) " + IOB + " " + IAE,
        "int could(int,int) " + IOB,
        "int understood(int) " + IOB,
        "int quiet(int,int,int,int) " + IOB + " " + IAE + " " + UOE,
        "int worth(int,int,int) " + IOB + " " + IAE,
        "int sale(int,int,boolean) " + IOB + " " + IAE,
        "int evening(int,int,int) " + IAE + " " + NSE,
        "void image()",
        "boolean back()",
        "int count(int)");

    private static final Check CHECK = new Check("FaceTest");

    public static void main(String[] args) {
        methods();
        fieldsAndConstructors();
        insideClasses();
        newObject();
        CHECK.finish();
    }

    private static String told(Method method) {
        StringBuilder text = new StringBuilder();
        text.append(method.getReturnType()).append(' ').append(method.getName()).append('(');
        text.append(Arrays.stream(method.getParameterTypes()).map(Class::getName).collect(Collectors.joining(",")));
        text.append(')');
        for (Class<?> thrown : method.getExceptionTypes()) {
            text.append(' ').append(thrown.getSimpleName());
        }
        return text.toString();
    }

    private static void methods() {
        Set<String> found = new TreeSet<>();
        Set<String> names = new HashSet<>();
        for (Method method : BellTown.class.getDeclaredMethods()) {
            if (Modifier.isPublic(method.getModifiers())) {
                found.add(told(method));
                names.add(method.getName());
            }
        }
        CHECK.due("the public methods", found.toString(), new TreeSet<>(FACE).toString());
        for (Method method : BellTown.class.getDeclaredMethods()) {
            if (!Modifier.isPublic(method.getModifiers())) {
                CHECK.due(method.getName() + " is private", Modifier.isPrivate(method.getModifiers()), true);
                CHECK.due(method.getName() + " has a name of its own", names.contains(method.getName()), false);
            }
        }
    }

    private static void fieldsAndConstructors() {
        for (Field field : BellTown.class.getDeclaredFields()) {
            boolean none = field.getName().equals("NONE");
            int modifiers = field.getModifiers();
            CHECK.due(field.getName() + " is public", Modifier.isPublic(modifiers), none);
            CHECK.due(field.getName() + " is private", Modifier.isPrivate(modifiers), !none);
            CHECK.due(field.getName() + " final, if static",
                !Modifier.isStatic(modifiers) || Modifier.isFinal(modifiers), true);
        }
        CHECK.due("NONE", BellTown.NONE, -1);
        CHECK.due("the class is final", Modifier.isFinal(BellTown.class.getModifiers()), true);
        CHECK.due("the class is public", Modifier.isPublic(BellTown.class.getModifiers()), true);
        Constructor<?>[] constructors = BellTown.class.getDeclaredConstructors();
        CHECK.due("constructors", constructors.length, 1);
        CHECK.due("its parameters", constructors[0].getParameterCount(), 0);
        CHECK.due("it is public", Modifier.isPublic(constructors[0].getModifiers()), true);
    }

    private static void insideClasses() {
        Class<?>[] inside = BellTown.class.getDeclaredClasses();
        CHECK.due("some twelve classes at the most", inside.length <= 12, true);
        for (Class<?> one : inside) {
            CHECK.due(one + " is static", Modifier.isStatic(one.getModifiers()), true);
            CHECK.due(one + " is not public",
                Modifier.isPublic(one.getModifiers()) || Modifier.isProtected(one.getModifiers()), false);
            CHECK.due(one + " has some twenty fields", Arrays.stream(one.getDeclaredFields())
                .filter(field -> !Modifier.isStatic(field.getModifiers())).count() <= 20, true);
            for (Method method : one.getDeclaredMethods()) {
                String name = " " + method.getName() + "(";
                CHECK.due(method + " takes at most seven", method.getParameterCount() <= 7, true);
                CHECK.due(method + " has a name of its own", FACE.stream().anyMatch(face -> face.contains(name)), false);
            }
        }
    }

    private static void newObject() {
        BellTown town = new BellTown();
        int[] due = {0, 0, 0, -1, 0, 0, 0, 0, 0, 0, 0, -1};
        for (int what = 0; what < due.length; what++) {
            CHECK.due("count(" + what + ") of a new object", town.count(what), due[what]);
        }
        CHECK.due("count(-1) of a new object", town.count(-1), -1);
        CHECK.due("fault() of a new object", town.fault(), -1);
        CHECK.due("back() of a new object", town.back(), false);
        CHECK.due("hush() of a new object", town.hush(), 0);
        CHECK.due("undo() of a new object", town.undo(), -1);
        CHECK.due("colours(NONE) of a new object", town.colours(-1), 0);
        CHECK.due("least(all) of a new object", town.least(-1), 0);
        CHECK.due("evening of a new object", town.evening(1, 12, 3), 0);
        CHECK.due("end(1) of a new object", town.end(1), false);
        CHECK.due("end(0) of a new object", town.end(0), true);
    }
}
