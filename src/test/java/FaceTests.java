import java.lang.reflect.Constructor;
import java.lang.reflect.Field;
import java.lang.reflect.Method;
import java.lang.reflect.Modifier;
import java.util.ArrayList;
import java.util.List;
import java.util.Set;
import java.util.TreeSet;

/** The class has the document's public face and nothing besides (LANGUAGE.md, rules 1 and 5, and sizes of rule 11). */
public final class FaceTests {
    private static final String[] METHODS = {"reset(int)", "setStock(int,int,int)", "change(int,int,int)",
        "send(int,int,int,int)", "receive(int,int)", "stock(int,int)", "inChannel(int,int,int,int)", "event(int,int)",
        "clock(int,int)", "order(int,int)", "count(int)", "eventsOf(int)", "beginSnapshot(int)", "abandonSnapshot()",
        "recorded(int)", "takeSnapshot()", "setCut(int,int)", "cut(int)", "orphans()", "lowerCut()", "raiseCut()",
        "stockAtCut(int,int)", "inTransit(int,int,int,int)", "type(char)", "clearText()", "addRule()",
        "removeRule(int)", "rule(int,int)", "broken(boolean)", "setMoveCost(int,int,int)", "setOutsideCosts(int,int)",
        "repairCost()", "moved(int,int,int)", "outside(int,int,boolean)", "repairedStock(int,int)", "apply(boolean)",
        "restore()"};
    private static final String[] CONSTANTS = {"UNKNOWN", "BAD_VALUE", "NOT_NOW", "NOT_POSSIBLE", "FULL", "NONE",
        "MARKER"};

    private static final Due due = new Due();

    private FaceTests() {
    }

    public static void main(String[] args) {
        Class<?> face = CutRepairer.class;
        due.is("public and final", face.getModifiers() & (Modifier.PUBLIC | Modifier.FINAL),
            Modifier.PUBLIC | Modifier.FINAL);
        Set<String> publicNames = methods(face);
        constructors(face);
        fields(face);
        insides(face, publicNames);
        due.end();
    }

    private static Set<String> methods(Class<?> face) {
        Set<String> wanted = new TreeSet<>(List.of(METHODS));
        Set<String> found = new TreeSet<>();
        Set<String> names = new TreeSet<>();
        for (Method method : face.getDeclaredMethods()) {
            if (!Modifier.isPrivate(method.getModifiers()) && !method.isSynthetic()) {
                found.add(signature(method));
                names.add(method.getName());
                due.is(method + " is public and answers an int",
                    method.getModifiers() == Modifier.PUBLIC && method.getReturnType() == int.class ? 1 : 0, 1);
            }
        }
        due.is("methods " + found, found.equals(wanted) ? 1 : 0, 1);
        return names;
    }

    private static String signature(Method method) {
        List<String> types = new ArrayList<>();
        for (Class<?> type : method.getParameterTypes()) {
            types.add(type.getSimpleName());
        }
        return method.getName() + "(" + String.join(",", types) + ")";
    }

    private static void constructors(Class<?> face) {
        int open = 0;
        for (Constructor<?> constructor : face.getDeclaredConstructors()) {
            open += Modifier.isPrivate(constructor.getModifiers()) ? 0 : 1;
            due.is("constructor without parameters", constructor.getParameterCount(), 0);
        }
        due.is("constructors", open, 1);
    }

    private static void fields(Class<?> face) {
        Set<String> open = new TreeSet<>();
        for (Field field : face.getDeclaredFields()) {
            if (!Modifier.isPrivate(field.getModifiers())) {
                open.add(field.getName());
                int all = Modifier.PUBLIC | Modifier.STATIC | Modifier.FINAL;
                due.is(field + " is a constant", field.getModifiers() == all && field.getType() == int.class ? 1 : 0, 1);
            }
        }
        due.is("constants " + open, open.equals(new TreeSet<>(List.of(CONSTANTS))) ? 1 : 0, 1);
    }

    private static void insides(Class<?> face, Set<String> publicNames) {
        due.is("some twelve classes", face.getDeclaredClasses().length <= 12 ? 1 : 0, 1);
        List<Class<?>> all = new ArrayList<>(List.of(face.getDeclaredClasses()));
        all.add(face);
        for (Class<?> one : all) {
            int fields = 0;
            for (Field field : one.getDeclaredFields()) {
                boolean constant = Modifier.isStatic(field.getModifiers());
                fields += constant ? 0 : 1;
                due.is(field + " is final if it is static",
                    !constant || Modifier.isFinal(field.getModifiers()) ? 1 : 0, 1);
            }
            due.is(one + " has some twenty fields at most", fields <= 20 ? 1 : 0, 1);
            for (Method method : one.getDeclaredMethods()) {
                due.is(method + " has at most seven parameters", method.getParameterCount() <= 7 ? 1 : 0, 1);
                due.is(method + " makes no lambda", method.isSynthetic() ? 1 : 0, 0);
                boolean itself = one == face && Modifier.isPublic(method.getModifiers());
                due.is(method + " bears a name of its own",
                    !itself && publicNames.contains(method.getName()) ? 1 : 0, 0);
            }
            if (one != face) {
                due.is(one + " is static and not public",
                    Modifier.isStatic(one.getModifiers()) && !Modifier.isPublic(one.getModifiers()) ? 1 : 0, 1);
            }
        }
    }
}
