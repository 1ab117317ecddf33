/** Counts the answers that are as due and prints those that are not. */
final class Check {
    private int passed;
    private int failed;

    void due(String call, long got, long want) {
        if (got == want) {
            passed++;
        } else {
            failed++;
            System.out.println(call + " answered " + got + ", due is " + want);
        }
    }

    void due(String call, boolean got, boolean want) {
        due(call, got ? 1 : 0, want ? 1 : 0);
    }

    /** Prints the closing line and ends with exit code 1 if an answer was wrong. */
    void close(String name) {
        System.out.println(name + ": " + passed + " passed, " + failed + " failed");
        if (failed != 0) {
            System.exit(1);
        }
    }

    int failures() {
        return failed;
    }

    /** Puts a text on the TAPE, which has to be empty. */
    static void put(ChalkChain x, byte[] text) {
        int[] numbers = new int[5];
        for (int from = 0; from < text.length; from += 20) {
            java.util.Arrays.fill(numbers, 0);
            for (int i = 0; i < 20; i++) {
                int sign = from + i < text.length ? text[from + i] & 255 : 0;
                numbers[i / 4] = numbers[i / 4] << 8 | sign;
            }
            x.feed(numbers[0], numbers[1], numbers[2], numbers[3], numbers[4]);
        }
        x.end(text.length);
    }

    static int tell(ChalkChain x, String text) {
        put(x, text.getBytes(java.nio.charset.StandardCharsets.ISO_8859_1));
        return x.city();
    }
}
