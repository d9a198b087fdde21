import java.io.IOException;
import java.lang.reflect.Constructor;
import java.lang.reflect.Executable;
import java.lang.reflect.Field;
import java.lang.reflect.Method;
import java.lang.reflect.Modifier;
import java.nio.file.Files;
import java.nio.file.Path;
import java.util.ArrayList;
import java.util.List;
import java.util.Set;
import java.util.TreeSet;

/** The class has the face that the document tells, and no other member that is not private. */
public final class FaceTest {
    private static int wrong;

    public static void main(String[] args) throws IOException {
        Set<String> told = told(Path.of("../shared/DOC.md"));
        Set<String> found = new TreeSet<>();
        Set<String> names = new TreeSet<>();
        for (Constructor<?> c : CutsetWorks.class.getDeclaredConstructors()) {
            found.add(line(c, "CutsetWorks"));
        }
        for (Method m : CutsetWorks.class.getDeclaredMethods()) {
            if (!Modifier.isPrivate(m.getModifiers())) {
                found.add(line(m, m.getReturnType().getName() + " " + m.getName()));
                names.add(m.getName());
            }
        }
        for (String line : told) {
            need(found.contains(line), "the document has " + line);
        }
        for (String line : found) {
            need(told.contains(line), "the document has no " + line);
        }
        need(told.size() == 51, "the face has a constructor and 50 methods, but " + told.size() + " lines were read");
        for (Field f : CutsetWorks.class.getDeclaredFields()) {
            need(Modifier.isPrivate(f.getModifiers()), "a field is not private: " + f.getName());
        }
        need(Modifier.isFinal(CutsetWorks.class.getModifiers()), "the class is not final");
        checkInside(names);
        System.out.println(wrong == 0 ? "the face is as the document tells" : "the face is not as the document tells");
        if (wrong != 0) {
            System.exit(1);
        }
    }

    private static void checkInside(Set<String> names) {
        for (Method m : CutsetWorks.class.getDeclaredMethods()) {
            need(!Modifier.isPrivate(m.getModifiers()) || !names.contains(m.getName()), "private " + m.getName());
        }
        Class<?>[] inside = CutsetWorks.class.getDeclaredClasses();
        need(inside.length <= 11, "there are " + inside.length + " classes inside");
        for (Class<?> c : inside) {
            int modifiers = c.getModifiers();
            need(Modifier.isStatic(modifiers), c.getName() + " is not static");
            need(!Modifier.isPublic(modifiers) && !Modifier.isProtected(modifiers), c.getName() + " is not hidden");
            need(c.getDeclaredFields().length <= 25, c.getName() + " has many fields");
            for (Method m : c.getDeclaredMethods()) {
                need(!names.contains(m.getName()), c.getName() + " has a method with a name of the face: " + m.getName());
                need(m.getParameterCount() <= 7, "many parameters: " + m.getName());
            }
        }
    }

    private static void need(boolean isSo, String what) {
        if (!isSo) {
            wrong++;
            System.out.println(what);
        }
    }

    private static String line(Executable e, String name) {
        StringBuilder line = new StringBuilder(name);
        for (Class<?> type : e.getParameterTypes()) {
            line.append(' ').append(type.getName());
        }
        for (Class<?> type : e.getExceptionTypes()) {
            line.append(" !").append(type.getSimpleName());
        }
        return line.toString();
    }

    /** The lines of the face in the document, written as line() writes them. */
    private static Set<String> told(Path document) throws IOException {
        Set<String> lines = new TreeSet<>();
        boolean isFace = false;
        for (String text : Files.readAllLines(document)) {
            isFace = text.startsWith("public final class") || isFace && !text.startsWith("}");
            if (isFace && text.startsWith("    public ")) {
                lines.add(shortened(text.trim()));
            }
        }
        return lines;
    }

    private static String shortened(String text) {
        int open = text.indexOf('(');
        int close = text.indexOf(')');
        List<String> parts = new ArrayList<>();
        parts.add(text.substring("public ".length(), open));
        for (String parameter : text.substring(open + 1, close).split(", ")) {
            if (!parameter.isEmpty()) {
                parts.add(parameter.split(" ")[0]);
            }
        }
        int throwing = text.indexOf("throws ");
        if (throwing > 0) {
            for (String name : text.substring(throwing + 7, text.length() - 1).split(", ")) {
                parts.add("!" + name);
            }
        }
        return String.join(" ", parts);
    }
}
