import java.lang.reflect.Field;
import java.lang.reflect.Member;
import java.lang.reflect.Method;
import java.lang.reflect.Modifier;
import java.util.Arrays;
import java.util.HashSet;
import java.util.Set;
import java.util.TreeSet;

/** The class shows the document's face, and nothing else (LANGUAGE.md, rules 1, 5 and 11). */
public final class FaceTest {
    private static final String[] METHODS = {
        "int posts(int)", "int join(int,int,int,int)", "int part(int,int)", "int bad(int,int,boolean)",
        "int leads(int,int)", "int ready()", "int degree(int)", "int add(int,int)", "int clear(int)",
        "int after(int,int,int)", "int walks(int,int)", "int fails(int)", "int sent(int,int)", "int next(int)",
        "int look(int,int)", "int classes(int)", "int deep()", "int apart(int,int)",
        "int meet(int,int,int,boolean)", "int worst(int,boolean)", "int ring(int,int)", "int told(int)"};
    private static final String[] CONSTANTS = {
        "NONE=-6", "UNKNOWN=-1", "OUTSIDE=-2", "STATE=-3", "FULL=-4", "NO=-5", "SPENT=-7"};

    private static final Checks CHECKS = new Checks();

    public static void main(String[] args) throws IllegalAccessException {
        Class<?> face = NetWalkers.class;
        CHECKS.due("modifiers", Modifier.toString(face.getModifiers()), "public final");
        CHECKS.due("constructors", Arrays.toString(face.getDeclaredConstructors()), "[public NetWalkers()]");
        CHECKS.due("methods", shownMethods(face).toString(), sorted(METHODS));
        CHECKS.due("constants", shownFields(face).toString(), sorted(CONSTANTS));
        checkInside(face, namesOf(face));
        for (Class<?> inside : face.getDeclaredClasses()) {
            CHECKS.due("static " + inside, Modifier.isStatic(inside.getModifiers()) ? 1 : 0, 1);
            checkInside(inside, namesOf(face));
        }
        CHECKS.end();
    }

    private static Set<String> namesOf(Class<?> face) {
        Set<String> names = new HashSet<>();
        for (Method method : face.getDeclaredMethods()) {
            if (isShown(method)) {
                names.add(method.getName());
            }
        }
        return names;
    }

    private static void checkInside(Class<?> one, Set<String> faceNames) {
        for (Method method : one.getDeclaredMethods()) {
            String name = one.getName() + "." + method.getName();
            CHECKS.due("parameters of " + name, method.getParameterCount() <= 7 ? 1 : 0, 1);
            if (one != NetWalkers.class || !isShown(method)) {
                CHECKS.due(name + " bears a name of the face", faceNames.contains(method.getName()) ? 1 : 0, 0);
            }
        }
        for (Field field : one.getDeclaredFields()) {
            int modifiers = field.getModifiers();
            boolean open = Modifier.isStatic(modifiers) && !Modifier.isFinal(modifiers);
            CHECKS.due("static state in " + field, open ? 1 : 0, 0);
        }
    }

    private static boolean isShown(Member member) {
        return !Modifier.isPrivate(member.getModifiers()) && !member.isSynthetic();
    }

    private static Set<String> shownMethods(Class<?> face) {
        Set<String> shown = new TreeSet<>();
        for (Method method : face.getDeclaredMethods()) {
            if (isShown(method)) {
                shown.add(method.toString().replace("public ", "").replace("NetWalkers.", ""));
            }
        }
        return shown;
    }

    private static Set<String> shownFields(Class<?> face) throws IllegalAccessException {
        Set<String> shown = new TreeSet<>();
        for (Field field : face.getDeclaredFields()) {
            if (isShown(field)) {
                shown.add(field.getName() + "=" + field.getInt(null));
            }
        }
        return shown;
    }

    private static String sorted(String[] texts) {
        return new TreeSet<>(Arrays.asList(texts)).toString();
    }
}
