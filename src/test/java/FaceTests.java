import java.lang.reflect.Constructor;
import java.lang.reflect.Field;
import java.lang.reflect.Method;
import java.lang.reflect.Modifier;
import java.util.Set;
import java.util.TreeSet;

// The class shows the document's public face and nothing else.
public final class FaceTests {
    private static int wrong = 0;

    private static void due(String what, Object got, Object want) {
        if (!got.equals(want)) {
            wrong++;
            System.out.println(what + ": is " + got + ", due is " + want);
        }
    }

    public static void main(String[] args) {
        Class<?> face = TwoPhaseStore.class;
        due("class", Modifier.toString(face.getModifiers()), "public final");
        due("nested classes", face.getDeclaredClasses().length, 0);
        due("methods", visibleMethods(face), new TreeSet<>(Set.of(
            "public int begin()",
            "public int get(int,int)",
            "public int put(int,int,int)",
            "public int move(int,int,int)",
            "public int commit(int,int,int)",
            "public int abort(int)",
            "public int crash(int)",
            "public int peek(int)",
            "public int open()",
            "public int holder(int)",
            "public int keys(int)",
            "public int written(int)",
            "public int sum(int)",
            "public int total()",
            "public int commits()")));
        due("fields", visibleFields(face), new TreeSet<>(Set.of(
            "public static final int BAD",
            "public static final int FULL",
            "public static final int BUSY")));
        due("constructors", constructors(face), new TreeSet<>(Set.of("public ()")));
        due("BAD", TwoPhaseStore.BAD, -100000);
        due("FULL", TwoPhaseStore.FULL, -200000);
        due("BUSY", TwoPhaseStore.BUSY, -300000);
        System.out.println("FaceTests: " + wrong + " wrong");
        if (wrong != 0) {
            System.exit(1);
        }
    }

    private static Set<String> visibleMethods(Class<?> face) {
        Set<String> seen = new TreeSet<>();
        for (Method method : face.getDeclaredMethods()) {
            if (!Modifier.isPrivate(method.getModifiers())) {
                seen.add(Modifier.toString(method.getModifiers()) + " " + method.getReturnType() + " "
                    + method.getName() + types(method.getParameterTypes()));
            }
        }
        return seen;
    }

    private static Set<String> visibleFields(Class<?> face) {
        Set<String> seen = new TreeSet<>();
        for (Field field : face.getDeclaredFields()) {
            if (!Modifier.isPrivate(field.getModifiers())) {
                seen.add(Modifier.toString(field.getModifiers()) + " " + field.getType() + " " + field.getName());
            }
        }
        return seen;
    }

    private static Set<String> constructors(Class<?> face) {
        Set<String> seen = new TreeSet<>();
        for (Constructor<?> constructor : face.getDeclaredConstructors()) {
            seen.add(Modifier.toString(constructor.getModifiers()) + " " + types(constructor.getParameterTypes()));
        }
        return seen;
    }

    private static String types(Class<?>[] types) {
        StringBuilder text = new StringBuilder("(");
        for (int i = 0; i < types.length; i++) {
            text.append(i == 0 ? "" : ",").append(types[i].getName());
        }
        return text.append(")").toString();
    }
}
