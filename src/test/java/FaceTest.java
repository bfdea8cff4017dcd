import java.lang.reflect.Constructor;
import java.lang.reflect.Field;
import java.lang.reflect.Method;
import java.lang.reflect.Modifier;
import java.util.Set;
import java.util.TreeSet;

/** The public face, and no other member that is not private (LANGUAGE.md, rules 1 and 5). */
public final class FaceTest {
    private static final String[] FACE = {
        "boolean write(long)", "void wipe()", "int load()", "int nodes()", "int node(long)",
        "boolean set(int,int)", "boolean stick(int,int)", "boolean free(int)", "boolean jam(int,int)",
        "boolean limit(int)", "int step()", "int settle()", "int steps()", "int state(int)",
        "int level(int,int)", "int group(int)", "int conducts(int)", "int change(int)",
    };

    public static void main(String[] args) {
        Check check = new Check();
        Class<?> face = SwitchLevels.class;
        check.due("the class", Modifier.toString(face.getModifiers()), "public final");
        check.due("NONE", SwitchLevels.NONE, -1);
        checkMethods(check, face);
        checkFields(check, face);
        Constructor<?>[] constructors = face.getDeclaredConstructors();
        check.due("constructors", constructors.length, 1);
        check.due("the constructor", constructors[0].toString(), "public SwitchLevels()");
        for (Class<?> inside : face.getDeclaredClasses()) {
            int modifiers = inside.getModifiers();
            check.due(inside + " is static", Modifier.isStatic(modifiers), true);
            check.due(inside + " is hidden", Modifier.isPublic(modifiers) || Modifier.isProtected(modifiers), false);
        }
        check.end();
    }

    private static void checkMethods(Check check, Class<?> face) {
        Set<String> open = new TreeSet<>();
        Set<String> openNames = new TreeSet<>();
        for (Method m : face.getDeclaredMethods()) {
            if (!Modifier.isPrivate(m.getModifiers())) {
                open.add(Modifier.toString(m.getModifiers()) + " " + signature(m));
                openNames.add(m.getName());
            }
        }
        Set<String> wanted = new TreeSet<>();
        for (String one : FACE) {
            wanted.add("public " + one);
        }
        check.due("the methods", open.toString(), wanted.toString());
        for (Method m : face.getDeclaredMethods()) {
            if (Modifier.isPrivate(m.getModifiers())) {
                check.due(m + " bears a public one's name", openNames.contains(m.getName()), false);
            }
        }
    }

    private static String signature(Method m) {
        StringBuilder text = new StringBuilder(m.getReturnType() + " " + m.getName() + "(");
        Class<?>[] parameters = m.getParameterTypes();
        for (int i = 0; i < parameters.length; i++) {
            text.append(i == 0 ? "" : ",").append(parameters[i]);
        }
        return text.append(")").toString();
    }

    private static void checkFields(Check check, Class<?> face) {
        for (Field f : face.getDeclaredFields()) {
            int modifiers = f.getModifiers();
            boolean isNone = f.getName().equals("NONE");
            check.due(f + " is private", Modifier.isPrivate(modifiers), !isNone);
            check.due(f + " is no changing static", Modifier.isStatic(modifiers) && !Modifier.isFinal(modifiers), false);
        }
    }
}
