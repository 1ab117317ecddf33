import java.io.IOException;
import java.io.UncheckedIOException;
import java.nio.file.Files;
import java.nio.file.Path;
import java.util.ArrayList;
import java.util.List;
import java.util.TreeMap;

/**
 * What the boundary tests share. Each of their checks stands under a sentence of the document, which is
 * quoted: a quotation that the document does not have, or that has no check, is a failure.
 */
abstract class Boundary extends Lines {
    private static final Check CHECK = new Check();
    private static final String DOCUMENT = read();
    private static final int[] FAR_OFF = {Integer.MIN_VALUE, Integer.MIN_VALUE + 1, -65536, -4096, -100, -32, -5, -4,
        -3, -2, -1, 100000, 1 << 20, 1 << 30, Integer.MAX_VALUE - 1, Integer.MAX_VALUE};
    private static final TreeMap<Integer, Integer> ANSWERS_BY_PROMISE = new TreeMap<>();

    private static String label = "no sentence";
    private static int promise;
    private static int answers = 1;

    private static String read() {
        try {
            return Files.readString(Path.of("../shared/DOC.md"));
        } catch (IOException e) {
            throw new UncheckedIOException(e);
        }
    }

    /** The checks that follow stand under these words of the document's head. */
    static void head(String words) {
        begin(0, section("head", null), words);
    }

    /** The checks that follow stand under these words of the document's terms. */
    static void terms(String words) {
        begin(0, section("terms", null), words);
    }

    /** The checks that follow stand under these words of a promise. */
    static void promise(int number, String words) {
        begin(number, section("promise", Integer.toString(number)), words);
    }

    /** The checks that follow stand under these words of what is not promised. */
    static void rest(String words) {
        begin(0, section("rest", null), words);
    }

    /** The document's section out of which a quotation of this sort is. */
    static String section(String sort, String number) {
        return switch (sort) {
            case "head" -> "What it is";
            case "terms" -> "Terms";
            case "promise" -> "Promise " + number;
            default -> "Not promised";
        };
    }

    private static void begin(int number, String where, String words) {
        leave();
        label = where + " \"" + words + "\"";
        promise = number;
        answers = 0;
        int from = DOCUMENT.indexOf("\n## " + where);
        int next = DOCUMENT.indexOf("\n## ", from + 1);
        int to = next < 0 ? DOCUMENT.length() : next;
        boolean stands = from >= 0 && DOCUMENT.substring(from, to).contains(words);
        CHECK.due(label + ": the document has these words", stands, true);
    }

    private static void leave() {
        CHECK.due(label + ": has a check", answers > 0, true);
        ANSWERS_BY_PROMISE.merge(promise, answers, Integer::sum);
    }

    static void due(String call, long got, long want) {
        answers++;
        CHECK.due(label + ": " + call, got, want);
    }

    static void due(String call, boolean got, boolean want) {
        due(call, got ? 1 : 0, want ? 1 : 0);
    }

    static void dueSame(String call, String got, String want) {
        due(call + (got.equals(want) ? "" : " (" + got + " for " + want + ")"), got.equals(want), true);
    }

    static void dueWay(String call, ChalkChain x, int... way) {
        due(call + ": about(9)", x.about(9), way.length);
        for (int i = 0; i < way.length; i++) {
            due(call + ": lies(" + i + ")", x.lies(i), way[i]);
        }
        due(call + ": lies behind its end", x.lies(way.length), NONE);
    }

    static void dueThing(String call, ChalkChain x, int thing, int... want) {
        for (int what = 0; what < want.length; what++) {
            due(call + ": thing(" + thing + ", " + what + ")", x.thing(thing, what), want[what]);
        }
    }

    static ChalkChain told(String text) {
        ChalkChain x = new ChalkChain();
        tell(x, text);
        return x;
    }

    static void tell(ChalkChain x, String text) {
        Check.tell(x, text);
        CHECK.due(label + ": fault(0) of " + text, x.fault(0), 0);
    }

    /** Numbers far off, and these beside them. */
    static int[] wrong(int... beside) {
        int[] all = new int[FAR_OFF.length + beside.length];
        System.arraycopy(FAR_OFF, 0, all, 0, FAR_OFF.length);
        System.arraycopy(beside, 0, all, FAR_OFF.length, beside.length);
        return all;
    }

    /** Whoever is not among so many PEOPLE. */
    static int[] strangers(int people) {
        return wrong(people, people + 1, 12, 13, 16, 31, 32, 33, 63, 64, 256);
    }

    /** All that can be read without changing anything, but for the TAPE and the FAULT. */
    static String look(ChalkChain x) {
        List<Long> seen = new ArrayList<>();
        for (int what = 0; what < 12; what++) {
            seen.add(what == 8 ? 0L : x.about(what));
        }
        for (int i = 0; i < x.about(9); i++) {
            seen.add((long) x.lies(i));
        }
        for (int one = 0; one < x.about(0); one++) {
            seen.add((long) x.knows(one));
            for (int what = 0; what < 3; what++) {
                seen.add((long) x.one(one, what));
            }
        }
        for (int thing = 0; thing < x.about(5); thing++) {
            for (int what = 0; what < 5; what++) {
                seen.add((long) x.thing(thing, what));
            }
        }
        for (int what = 0; what < 3; what++) {
            seen.add((long) x.spies(what, x.about(7)));
            seen.add((long) x.origins(what, x.about(7)));
        }
        seen.add((long) x.apart());
        seen.add((long) x.cut());
        seen.add((long) x.worst(0));
        seen.add((long) x.worst(1));
        return seen.toString();
    }

    /** Closes a test that has checks for these promises. */
    static void close(String name, int... promises) {
        leave();
        for (int number : promises) {
            CHECK.due(name + ": promise " + number + " has a check",
                    ANSWERS_BY_PROMISE.getOrDefault(number, 0) > 0, true);
        }
        CHECK.close(name);
    }
}
