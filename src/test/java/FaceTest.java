import java.lang.reflect.Field;
import java.lang.reflect.Method;
import java.lang.reflect.Modifier;
import java.util.Arrays;
import java.util.Set;
import java.util.TreeSet;

/** The face of the class: what the document lists, with its throws clauses, and nothing else. */
public final class FaceTest {
    private static final String OUT = " IndexOutOfBoundsException";
    private static final String ARGUMENT = " IllegalArgumentException";
    private static final String STATE = " IllegalStateException";

    private static final String[] FACE = {
        "int link(int,int)" + OUT + STATE,
        "int split(int,int)" + OUT + STATE,
        "int deliver(int,int)" + OUT + STATE,
        "int deliverAll()",
        "int lines()",
        "int tree(int)" + OUT,
        "int signOn(int,char)" + OUT + ARGUMENT + STATE,
        "void quit(int)" + OUT + STATE,
        "int join(int,int)" + OUT + STATE,
        "void leave(int,int)" + OUT + STATE,
        "int setModes(int,int,int,int)" + OUT + ARGUMENT + STATE,
        "int say(int,int)" + OUT,
        "int users()",
        "int clock()",
        "int known(int)" + OUT,
        "int members(int,int)" + OUT,
        "int age(int,int)" + OUT,
        "int modes(int,int)" + OUT,
        "int bans(int,int)" + OUT,
        "boolean areSame(int,int)" + OUT,
        "int joinedModes(int,int,int)" + OUT,
    };

    public static void main(String[] args) {
        Class<?> face = ChatRelay.class;
        Check.due("public and final", Modifier.PUBLIC | Modifier.FINAL, face.getModifiers());
        Check.due("constructors", 1, face.getDeclaredConstructors().length);
        Check.due("constructor is public", Modifier.PUBLIC, face.getDeclaredConstructors()[0].getModifiers());
        Check.due("it takes nothing", 0, face.getDeclaredConstructors()[0].getParameterCount());
        methods(face);
        constants(face);
        for (Class<?> inside : face.getDeclaredClasses()) {
            Check.due(inside + " is static", true, Modifier.isStatic(inside.getModifiers()));
            Check.due(inside + " is not public", false, Modifier.isPublic(inside.getModifiers()));
        }
        Check.end();
    }

    private static void methods(Class<?> face) {
        Set<String> want = new TreeSet<>(Arrays.asList(FACE));
        Set<String> got = new TreeSet<>();
        Set<String> names = new TreeSet<>();
        for (Method method : face.getDeclaredMethods()) {
            if (!Modifier.isPrivate(method.getModifiers())) {
                got.add(told(method));
                names.add(method.getName());
                Check.due(method + " is public", Modifier.PUBLIC, method.getModifiers());
            }
        }
        for (Method method : face.getDeclaredMethods()) {
            if (Modifier.isPrivate(method.getModifiers())) {
                Check.due(method + " bears a public name", false, names.contains(method.getName()));
            }
        }
        if (!want.equals(got)) {
            Check.report("the face is " + got + ", due is " + want);
        }
    }

    private static String told(Method method) {
        StringBuilder text = new StringBuilder();
        text.append(method.getReturnType()).append(' ').append(method.getName()).append('(');
        for (int i = 0; i < method.getParameterCount(); i++) {
            text.append(i == 0 ? "" : ",").append(method.getParameterTypes()[i]);
        }
        text.append(')');
        for (Class<?> thrown : method.getExceptionTypes()) {
            text.append(' ').append(thrown.getSimpleName());
        }
        return text.toString();
    }

    private static void constants(Class<?> face) {
        Check.due("NONE", -1, ChatRelay.NONE);
        Check.due("IS_GONE", -2, ChatRelay.IS_GONE);
        Check.due("NO_MEMBER", -3, ChatRelay.NO_MEMBER);
        Check.due("BANNED", -4, ChatRelay.BANNED);
        Check.due("NOT_ELDEST", -5, ChatRelay.NOT_ELDEST);
        int open = 0;
        for (Field field : face.getDeclaredFields()) {
            int modifiers = field.getModifiers();
            if (!Modifier.isPrivate(modifiers)) {
                open++;
                Check.due(field + " is a constant", Modifier.PUBLIC | Modifier.STATIC | Modifier.FINAL, modifiers);
            }
            if (Modifier.isStatic(modifiers)) {
                Check.due(field + " is final", true, Modifier.isFinal(modifiers));
            }
        }
        Check.due("public constants", 5, open);
    }
}
