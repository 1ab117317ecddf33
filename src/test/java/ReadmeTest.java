import java.lang.reflect.Method;
import java.nio.charset.StandardCharsets;
import java.nio.file.Files;
import java.nio.file.Path;
import java.util.regex.Matcher;
import java.util.regex.Pattern;

/** The examples of README.md: each call there answers what stands behind it. */
public final class ReadmeTest {
    private static final Check CHECK = new Check();
    private static final Pattern BLOCK = Pattern.compile("(?s)```(java|text)\n(.*?)```");
    private static final Pattern CALL = Pattern.compile("x\\.(\\w+)\\(([^)]*)\\); // (-?\\d+|true|false)(?::.*)?");

    public static void main(String[] args) throws Exception {
        ChalkChain x = new ChalkChain();
        int calls = 0;
        Matcher block = BLOCK.matcher(Files.readString(Path.of("README.md")));
        while (block.find()) {
            if (block.group(1).equals("text")) {
                Check.put(x, block.group(2).getBytes(StandardCharsets.ISO_8859_1));
                continue;
            }
            for (String line : block.group(2).split("\n")) {
                if (!line.equals("ChalkChain x = new ChalkChain();")) {
                    due(x, line);
                    calls++;
                }
            }
        }
        CHECK.due("README.md has examples", calls > 30, true);
        CHECK.close("ReadmeTest");
    }

    private static void due(ChalkChain x, String line) throws Exception {
        Matcher call = CALL.matcher(line);
        if (!call.matches()) {
            CHECK.due("a call with its answer: " + line, false, true);
            return;
        }
        String[] words = call.group(2).isEmpty() ? new String[0] : call.group(2).split(", ");
        Object[] numbers = new Object[words.length];
        Class<?>[] types = new Class<?>[words.length];
        for (int i = 0; i < words.length; i++) {
            numbers[i] = Integer.decode(words[i]);
            types[i] = int.class;
        }
        Method method = ChalkChain.class.getMethod(call.group(1), types);
        String answer = String.valueOf(method.invoke(x, numbers));
        CHECK.due(line + " (it answered " + answer + ")", answer.equals(call.group(3)), true);
    }
}
