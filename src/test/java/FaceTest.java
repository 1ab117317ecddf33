import java.lang.reflect.Constructor;
import java.lang.reflect.Field;
import java.lang.reflect.Method;
import java.lang.reflect.Modifier;
import java.nio.file.Files;
import java.nio.file.Path;
import java.util.ArrayList;
import java.util.Arrays;
import java.util.List;
import java.util.TreeSet;
import java.util.regex.Matcher;
import java.util.regex.Pattern;

/** The public face as the document writes it down, word for word, and the head of each promise. */
public final class FaceTest {
    private static final Check CHECK = new Check();
    private static final int PROMISES = 30;

    public static void main(String[] args) throws Exception {
        String document = Files.readString(Path.of("../shared/DOC.md"));
        List<String> face = faceOf(document);
        dueSame("the class", face.remove(0), Modifier.toString(ChalkChain.class.getModifiers()) + " class ChalkChain {");
        TreeSet<String> members = publicMembers();
        for (String line : face) {
            CHECK.due("the class has: " + line, members.remove(withoutNames(line)), true);
        }
        dueSame("what the face does not have", members.toString(), "[]");
        CHECK.due("NONE", ChalkChain.NONE, -1);
        CHECK.due("classes above it", ChalkChain.class.getSuperclass() == Object.class, true);
        CHECK.due("interfaces", ChalkChain.class.getInterfaces().length, 0);
        promises(document, face);
        CHECK.close("FaceTest");
    }

    private static void dueSame(String what, String want, String got) {
        CHECK.due(what + ": " + got + " for " + want, got.equals(want), true);
    }

    /** The lines of the document's face, the class itself first. */
    private static List<String> faceOf(String document) {
        Matcher block = Pattern.compile("(?s)\n## The public face\n.*?```java\n(.*?)\n\\}\n```").matcher(document);
        CHECK.due("the document has a face", block.find(), true);
        List<String> lines = new ArrayList<>();
        for (String line : block.group(1).split("\n")) {
            lines.add(line.strip());
        }
        return lines;
    }

    private static String withoutNames(String line) {
        return line.replaceAll("(int|long|boolean) \\w+(?=[,)])", "$1");
    }

    private static TreeSet<String> publicMembers() {
        TreeSet<String> members = new TreeSet<>();
        for (Field f : ChalkChain.class.getDeclaredFields()) {
            if (!Modifier.isPrivate(f.getModifiers())) {
                members.add(Modifier.toString(f.getModifiers()) + " " + f.getType().getName() + " " + f.getName() + " = "
                        + ChalkChain.NONE + ";");
            }
        }
        for (Constructor<?> c : ChalkChain.class.getDeclaredConstructors()) {
            members.add(Modifier.toString(c.getModifiers()) + " ChalkChain(" + types(c.getParameterTypes()) + ");");
        }
        for (Method m : ChalkChain.class.getDeclaredMethods()) {
            if (!Modifier.isPrivate(m.getModifiers())) {
                members.add(Modifier.toString(m.getModifiers()) + " " + m.getReturnType().getName() + " " + m.getName() + "("
                        + types(m.getParameterTypes()) + ");");
            }
        }
        return members;
    }

    private static String types(Class<?>[] all) {
        return String.join(", ", Arrays.stream(all).map(Class::getName).toList());
    }

    /** Each line of the face but the constant has a promise, which begins with it. */
    private static void promises(String document, List<String> face) {
        for (int number = 1; number <= PROMISES; number++) {
            Matcher head = Pattern.compile("\n## Promise " + number + ": [^\n]*\n\n`([^`]*)`: ").matcher(document);
            CHECK.due("promise " + number + " has a head", head.find(), true);
            String line = "public " + head.group(1) + ";";
            CHECK.due("promise " + number + " is of the face: " + line, number < face.size() && face.get(number).equals(line), true);
        }
        CHECK.due("each line has a promise", face.size(), PROMISES + 1);
    }
}
