import java.lang.reflect.Constructor;
import java.lang.reflect.Field;
import java.lang.reflect.Method;
import java.lang.reflect.Modifier;
import java.util.Arrays;
import java.util.Set;
import java.util.TreeSet;

/** The class has the constants, the constructor and the methods of the document, and no other member in sight. */
public final class FaceTest {
    private static final String[] FACE = {
        "int REFUSED = -1",
        "int UNAVAILABLE = -2",
        "long ABSENT = 1000000000000",
        "long NONE = -1000000000000",
        "QuorumCells[int]",
        "int write[int, int, int, int]",
        "int erase[int, int, int]",
        "int wipe[int, int, int]",
        "long read[int, int]",
        "long sum[int, int]",
        "int down[int]",
        "int up[int]",
        "int crash[int]",
        "int flush[int]",
        "int compact[int, int]",
        "int repair[int, int]",
        "int isUp[int]",
        "long local[int, int]",
        "long stamp[int, int]",
        "long wiped[int, int]",
        "int hints[]",
    };

    private static int wrong = 0;

    private static void fault(String what) {
        wrong++;
        System.out.println(what);
    }

    public static void main(String[] args) throws IllegalAccessException {
        Set<String> due = new TreeSet<>(Arrays.asList(FACE));
        Set<String> found = members();
        for (String member : due) {
            if (!found.contains(member)) {
                fault("missing: " + member);
            }
        }
        for (String member : found) {
            if (!due.contains(member)) {
                fault("not of the document: " + member);
            }
        }
        int modifiers = QuorumCells.class.getModifiers();
        if (!Modifier.isPublic(modifiers) || !Modifier.isFinal(modifiers)) {
            fault("the class is not public and final");
        }
        System.out.println(wrong == 0 ? "the face is as due" : wrong + " faults in the face");
        if (wrong != 0) {
            System.exit(1);
        }
    }

    private static Set<String> members() throws IllegalAccessException {
        Set<String> found = new TreeSet<>();
        for (Field field : QuorumCells.class.getDeclaredFields()) {
            if (!Modifier.isPrivate(field.getModifiers())) {
                found.add(describe(field));
            }
        }
        for (Constructor<?> constructor : QuorumCells.class.getDeclaredConstructors()) {
            String parameters = parameters(constructor.getParameterTypes());
            found.add(prefix(constructor.getModifiers(), Modifier.PUBLIC) + "QuorumCells" + parameters);
        }
        for (Method method : QuorumCells.class.getDeclaredMethods()) {
            if (!Modifier.isPrivate(method.getModifiers())) {
                String parameters = parameters(method.getParameterTypes());
                String name = method.getReturnType().getSimpleName() + " " + method.getName();
                found.add(prefix(method.getModifiers(), Modifier.PUBLIC) + name + parameters);
            }
        }
        return found;
    }

    private static String describe(Field field) throws IllegalAccessException {
        int due = Modifier.PUBLIC | Modifier.STATIC | Modifier.FINAL;
        String name = field.getType().getSimpleName() + " " + field.getName();
        if (field.getModifiers() != due) {
            return prefix(field.getModifiers(), due) + name;
        }
        return name + " = " + field.get(null);
    }

    /** Other modifiers than those due make a member one that isn't of the document. */
    private static String prefix(int modifiers, int due) {
        return modifiers == due ? "" : "[" + Modifier.toString(modifiers) + "] ";
    }

    private static String parameters(Class<?>[] types) {
        String[] names = new String[types.length];
        for (int i = 0; i < types.length; i++) {
            names[i] = types[i].getSimpleName();
        }
        return Arrays.toString(names);
    }
}
