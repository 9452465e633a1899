import java.lang.reflect.Constructor;
import java.lang.reflect.Executable;
import java.lang.reflect.Field;
import java.lang.reflect.Method;
import java.lang.reflect.Modifier;
import java.nio.file.Path;
import java.util.Set;
import java.util.TreeSet;

/** The public face as the document has it, and no more than it. */
public final class FaceTest {
    private static final Due DUE = new Due();
    private static final String BEGIN = "public final class FrameFerry {\n";

    public static void main(String[] args) throws IllegalAccessException {
        Set<String> due = documentsFace();
        Set<String> seen = face();
        for (String line : due) {
            DUE.is("it has " + line, seen.contains(line), true);
        }
        for (String line : seen) {
            DUE.is("the document has " + line, due.contains(line), true);
        }
        DUE.is("lines of the face", due.size(), 15);
        DUE.is("public and final", FrameFerry.class.getModifiers(), Modifier.PUBLIC | Modifier.FINAL);
        DUE.is("NONE", FrameFerry.NONE, -1);
        fieldsAreHidden();
        namesAreApart();
        DUE.end();
    }

    /** The lines of the document's section, without the names of the arguments. */
    private static Set<String> documentsFace() {
        Set<String> lines = new TreeSet<>();
        String all = Doc.read(Path.of("..", "shared", "DOC.md"));
        if (all == null || !all.contains(BEGIN)) {
            DUE.tell("the document's face is not at hand");
            return lines;
        }
        int from = all.indexOf(BEGIN) + BEGIN.length();
        for (String line : all.substring(from, all.indexOf("\n}", from)).split("\n")) {
            lines.add(line.trim().replace(";", "").replaceAll("\\b(int|boolean) \\w+(?=[,)])", "$1"));
        }
        return lines;
    }

    private static Set<String> face() throws IllegalAccessException {
        Set<String> lines = new TreeSet<>();
        for (Method method : FrameFerry.class.getDeclaredMethods()) {
            if (!Modifier.isPrivate(method.getModifiers())) {
                lines.add(told(method, method.getReturnType() + " " + method.getName()));
            }
        }
        for (Constructor<?> made : FrameFerry.class.getDeclaredConstructors()) {
            lines.add(told(made, "FrameFerry"));
        }
        for (Field field : FrameFerry.class.getDeclaredFields()) {
            if (!Modifier.isPrivate(field.getModifiers())) {
                lines.add(Modifier.toString(field.getModifiers()) + " " + field.getType() + " " + field.getName()
                    + " = " + field.get(null));
            }
        }
        return lines;
    }

    private static String told(Executable call, String name) {
        return Modifier.toString(call.getModifiers()) + " " + name + "(" + row(call.getParameterTypes()) + ")"
            + (call.getExceptionTypes().length == 0 ? "" : " throws " + row(call.getExceptionTypes()));
    }

    private static String row(Class<?>[] types) {
        StringBuilder text = new StringBuilder();
        for (Class<?> type : types) {
            text.append(text.length() == 0 ? "" : ", ").append(type.getSimpleName());
        }
        return text.toString();
    }

    private static void fieldsAreHidden() {
        for (Field field : FrameFerry.class.getDeclaredFields()) {
            boolean loose = Modifier.isStatic(field.getModifiers()) && !Modifier.isFinal(field.getModifiers());
            DUE.is("static and not final: " + field.getName(), loose, false);
        }
        for (Class<?> inside : FrameFerry.class.getDeclaredClasses()) {
            DUE.is(inside + " is static", Modifier.isStatic(inside.getModifiers()), true);
            DUE.is(inside + " is public", Modifier.isPublic(inside.getModifiers()), false);
        }
    }

    private static void namesAreApart() {
        Set<String> names = new TreeSet<>();
        for (Method method : FrameFerry.class.getMethods()) {
            names.add(method.getName());
        }
        for (Method method : FrameFerry.class.getDeclaredMethods()) {
            boolean hidden = Modifier.isPrivate(method.getModifiers());
            DUE.is("hidden under a public name: " + method.getName(), hidden && names.contains(method.getName()), false);
        }
        for (Class<?> inside : FrameFerry.class.getDeclaredClasses()) {
            for (Method method : inside.getDeclaredMethods()) {
                DUE.is("a public name inside: " + method.getName(), names.contains(method.getName()), false);
            }
        }
    }
}
