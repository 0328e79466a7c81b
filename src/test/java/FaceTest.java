import java.lang.reflect.Constructor;
import java.lang.reflect.Field;
import java.lang.reflect.Method;
import java.lang.reflect.Modifier;
import java.util.ArrayList;
import java.util.Arrays;
import java.util.List;
import java.util.Set;
import java.util.TreeSet;

/** The public face of the document, and that it is as LANGUAGE.md asks. */
public final class FaceTest {
    private static final Check check = new Check("FaceTest");

    private static final String[] FACE = {
        "int year(int,int,int)", "int say(int)", "int wipe()", "int fault()", "int dealt(int,int)",
        "long share(int,int,int)", "long odds(int,int,int)", "long tried(int,int,int,int)",
        "int drawn(int,int,int,int)", "long together(int,int,int,int)", "int go(int,int)",
        "long waves(int,int,int)", "int found(int,int,int)", "long luck(int,int,int)", "int trial(int,int)",
        "int of(int,int)", "int print(int,boolean)", "long lean(int)", "int reads(int,int)", "int bar(int)",
        "int club()", "int least(int,int)", "int truth(int)", "int good(int)", "int best(int)", "int told(int)",
    };

    private static final String[] CONSTANTS = {
        "int UNKNOWN -1", "int OUTSIDE -2", "int STATE -3", "int FULL -4", "int NO -5", "int NONE -6",
        "long LOST -1000000000000000000", "int GAP -1000000",
    };

    public static void main(String[] args) throws Exception {
        publicFace();
        nestedClasses();
        check.end();
    }

    private static void publicFace() throws IllegalAccessException {
        Class<?> face = RoundRows.class;
        check.holds("public and final", face.getModifiers() == (Modifier.PUBLIC | Modifier.FINAL));
        Set<String> methods = new TreeSet<>();
        for (Method method : face.getDeclaredMethods()) {
            if (!Modifier.isPrivate(method.getModifiers())) {
                check.holds(method + " is public alone", method.getModifiers() == Modifier.PUBLIC);
                methods.add(told(method));
            }
        }
        check.holds("the methods are " + methods, methods.equals(new TreeSet<>(Arrays.asList(FACE))));
        Set<String> constants = new TreeSet<>();
        for (Field field : face.getDeclaredFields()) {
            if (!Modifier.isPrivate(field.getModifiers())) {
                check.due(field.getName(), field.getModifiers(), Modifier.PUBLIC | Modifier.STATIC | Modifier.FINAL);
                constants.add(field.getType() + " " + field.getName() + " " + field.get(null));
            }
        }
        check.holds("the constants are " + constants, constants.equals(new TreeSet<>(Arrays.asList(CONSTANTS))));
        Constructor<?>[] made = face.getDeclaredConstructors();
        check.due("constructors", made.length, 1);
        check.due("its modifiers", made[0].getModifiers(), Modifier.PUBLIC);
        check.due("its parameters", made[0].getParameterCount(), 0);
    }

    private static String told(Method method) {
        List<String> types = new ArrayList<>();
        for (Class<?> type : method.getParameterTypes()) {
            types.add(type.getName());
        }
        return method.getReturnType() + " " + method.getName() + "(" + String.join(",", types) + ")";
    }

    private static void nestedClasses() {
        Class<?>[] inside = RoundRows.class.getDeclaredClasses();
        check.holds("twelve classes at most", inside.length <= 11);
        Set<String> faceNames = new TreeSet<>();
        for (String line : FACE) {
            faceNames.add(line.substring(line.indexOf(' ') + 1, line.indexOf('(')));
        }
        List<Class<?>> all = new ArrayList<>(Arrays.asList(inside));
        all.add(RoundRows.class);
        for (Class<?> one : all) {
            boolean outer = one == RoundRows.class;
            check.holds(one + " is static and not public", outer
                || Modifier.isStatic(one.getModifiers()) && !Modifier.isPublic(one.getModifiers()));
            int fields = 0;
            for (Field field : one.getDeclaredFields()) {
                boolean isStatic = Modifier.isStatic(field.getModifiers());
                check.holds(field + " is final, if static", !isStatic || Modifier.isFinal(field.getModifiers()));
                fields += isStatic ? 0 : 1;
            }
            check.holds(one + " has twenty fields at most", fields <= 20);
            for (Method method : one.getDeclaredMethods()) {
                check.holds(method + " has seven parameters at most", method.getParameterCount() <= 7);
                boolean own = outer && Modifier.isPublic(method.getModifiers());
                check.holds(method + " bears no name of the face", own || !faceNames.contains(method.getName()));
            }
        }
    }
}
