import java.lang.reflect.Constructor;
import java.lang.reflect.Field;
import java.lang.reflect.Method;
import java.lang.reflect.Modifier;
import java.util.Set;
import java.util.TreeSet;

/** The public face, and no more than it. */
public final class FaceTest {
    private static final Due DUE = new Due();

    private static final String[] FACE = {
        "int open(int)", "int feed(int,int,int,int,int)", "int clear()", "void start(boolean,int)",
        "int sender()", "int receiver()", "int late(boolean)", "void crash()",
        "boolean flip(boolean,int,int)", "int lose(boolean,int,int)", "int pipe(boolean,int)",
        "int got(int,int)", "int count(int)"};

    public static void main(String[] args) {
        methodsAreTheFace();
        fieldsAreTheFace();
        namesAreApart();
        DUE.is("public and final", FrameFerry.class.getModifiers(), Modifier.PUBLIC | Modifier.FINAL);
        DUE.end();
    }

    private static void methodsAreTheFace() {
        Set<String> want = new TreeSet<>(Set.of(FACE));
        Set<String> seen = new TreeSet<>();
        for (Method method : FrameFerry.class.getDeclaredMethods()) {
            if (!Modifier.isPrivate(method.getModifiers())) {
                seen.add(told(method));
            }
        }
        if (!seen.equals(want)) {
            DUE.tell("the face is " + seen);
        }
        Constructor<?>[] made = FrameFerry.class.getDeclaredConstructors();
        DUE.is("constructors", made.length, 1);
        DUE.is("its arguments", made[0].getParameterCount(), 0);
        DUE.is("it is public", Modifier.isPublic(made[0].getModifiers()), true);
    }

    private static String told(Method method) {
        StringBuilder text = new StringBuilder();
        text.append(method.getReturnType()).append(' ').append(method.getName()).append('(');
        String between = "";
        for (Class<?> type : method.getParameterTypes()) {
            text.append(between).append(type);
            between = ",";
        }
        return text.append(')').toString();
    }

    private static void fieldsAreTheFace() {
        for (Field field : FrameFerry.class.getDeclaredFields()) {
            boolean open = !Modifier.isPrivate(field.getModifiers());
            DUE.is("seen from outside: " + field.getName(), open, field.getName().equals("NONE"));
            boolean loose = Modifier.isStatic(field.getModifiers()) && !Modifier.isFinal(field.getModifiers());
            DUE.is("static and not final: " + field.getName(), loose, false);
        }
        for (Class<?> inside : FrameFerry.class.getDeclaredClasses()) {
            DUE.is(inside + " is static", Modifier.isStatic(inside.getModifiers()), true);
            DUE.is(inside + " is public", Modifier.isPublic(inside.getModifiers()), false);
        }
    }

    private static void namesAreApart() {
        Set<String> names = new TreeSet<>();
        for (Method method : FrameFerry.class.getMethods()) {
            names.add(method.getName());
        }
        for (Method method : FrameFerry.class.getDeclaredMethods()) {
            boolean hidden = Modifier.isPrivate(method.getModifiers());
            DUE.is("hidden under a public name: " + method.getName(), hidden && names.contains(method.getName()), false);
        }
        for (Class<?> inside : FrameFerry.class.getDeclaredClasses()) {
            for (Method method : inside.getDeclaredMethods()) {
                DUE.is("a public name inside: " + method.getName(), names.contains(method.getName()), false);
            }
        }
    }
}
