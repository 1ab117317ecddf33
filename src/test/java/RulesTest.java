import java.lang.reflect.Constructor;
import java.lang.reflect.Field;
import java.lang.reflect.Member;
import java.lang.reflect.Method;
import java.lang.reflect.Modifier;
import java.nio.file.Files;
import java.nio.file.Path;
import java.util.ArrayList;
import java.util.List;
import java.util.TreeSet;
import java.util.regex.Matcher;
import java.util.regex.Pattern;

/** The rules of LANGUAGE.md that can be read off the source or the compiled class. */
public final class RulesTest {
    private static final Check CHECK = new Check();
    private static final String FACE = "about(int) apart() back(int) cheap() city() cut() day(int) end(int)"
            + " fall(int,int,int) fault(int) feed(int,int,int,int,int) gap() image(int) knows(int) late(int,int)"
            + " later(int) lies(int) meet(int,int,int) one(int,int) origins(int,int) quick() safe(int) send()"
            + " spies(int,int) take(int) taken(int,int) thing(int,int) untell(int) worst(int)";

    public static void main(String[] args) throws Exception {
        face();
        insideClasses();
        String source = Files.readString(Path.of("src/main/java/ChalkChain.java"));
        String code = withoutComments(source);
        words(code);
        methods(code);
        CHECK.close("RulesTest");
    }

    private static void face() {
        TreeSet<String> names = new TreeSet<>();
        for (Method m : ChalkChain.class.getDeclaredMethods()) {
            if (Modifier.isPublic(m.getModifiers())) {
                List<String> types = new ArrayList<>();
                for (Class<?> type : m.getParameterTypes()) {
                    types.add(type.getName());
                }
                names.add(m.getName() + "(" + String.join(",", types) + ")");
            } else {
                due("rule 1: " + m.getName() + " is private", Modifier.isPrivate(m.getModifiers()));
            }
        }
        due("rule 1: the face is " + names, String.join(" ", names).equals(FACE));
        for (Field f : ChalkChain.class.getDeclaredFields()) {
            due("rule 1: " + f.getName(), f.getName().equals("NONE") || Modifier.isPrivate(f.getModifiers()));
        }
        for (Constructor<?> c : ChalkChain.class.getDeclaredConstructors()) {
            due("rule 1: the constructor", Modifier.isPublic(c.getModifiers()) && c.getParameterCount() == 0);
        }
    }

    private static void insideClasses() {
        Class<?>[] inside = ChalkChain.class.getDeclaredClasses();
        due("rule 11: at most twelve classes", inside.length < 12);
        for (Class<?> c : inside) {
            due("rule 2: " + c.getName() + " is static", Modifier.isStatic(c.getModifiers()));
            due("rule 1: " + c.getName() + " is not public", !Modifier.isPublic(c.getModifiers()));
            int fields = 0;
            for (Field f : c.getDeclaredFields()) {
                fields += isConstant(f) ? 0 : 1;
                due("rule 5: " + f.getName(), !Modifier.isStatic(f.getModifiers()) || isConstant(f));
            }
            due("rule 11: fields of " + c.getName(), fields <= 20);
            for (Method m : c.getDeclaredMethods()) {
                due("rule 1: the name " + m.getName(), !(" " + FACE).contains(" " + m.getName() + "("));
            }
        }
    }

    private static boolean isConstant(Member f) {
        return Modifier.isStatic(f.getModifiers()) && Modifier.isFinal(f.getModifiers());
    }

    private static void due(String what, boolean holds) {
        CHECK.due(what, holds, true);
    }

    private static String withoutComments(String source) {
        return source.replaceAll("(?s)/\\*.*?\\*/", "").replaceAll("//[^\n]*", "");
    }

    private static void words(String code) {
        String[] barred = {"throw", "throws", "try", "catch", "synchronized", "assert", "finally", "package",
            "Object", "System\\.(?!arraycopy)", "Thread", "Random", "->", "::", "@", "\\w+Exact\\b", "MAX_VALUE",
            "MIN_VALUE", "protected", "volatile", "native"};
        for (String word : barred) {
            String pattern = Character.isLetter(word.charAt(0)) ? "\\b" + word : word;
            pattern = word.matches("[A-Za-z]+") ? pattern + "\\b" : pattern;
            due("no " + word, !Pattern.compile(pattern).matcher(code).find());
        }
        Matcher imports = Pattern.compile("import ([^;]+);").matcher(code);
        while (imports.find()) {
            due("rule 4: import " + imports.group(1), imports.group(1).equals("java.util.Arrays"));
        }
    }

    /** Methods are found by their indentation: four or eight blanks, a head with a bracket, a brace. */
    private static void methods(String code) {
        String[] lines = code.split("\n");
        for (int i = 0; i < lines.length; i++) {
            Matcher head = Pattern.compile("^( {4}| {8})(?! )[\\w\\[\\] ]*?(\\w+)\\(([^)]*)\\) \\{$").matcher(lines[i]);
            if (head.matches()) {
                int last = i;
                while (!lines[last].equals(head.group(1) + "}")) {
                    last++;
                }
                due("rule 11: length of " + head.group(2), last - i < 60);
                due("rule 11: parameters of " + head.group(2), head.group(3).split(",").length <= 7);
            }
        }
    }
}
