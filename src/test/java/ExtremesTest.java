import java.nio.charset.StandardCharsets;

/**
 * Every call with the least, the greatest and the edge numbers there are, in an empty CITY, a full one and others: none may
 * throw, and the answers are those of the naive model.
 */
public final class ExtremesTest extends Lines {
    private static final Check CHECK = new Check();
    private static final int[] NUMBERS = {Integer.MIN_VALUE, Integer.MIN_VALUE + 1, -65536, -1000, -33, -32, -4, -3, -2, -1,
        0, 1, 2, 3, 4, 5, 8, 11, 12, 13, 31, 32, 33, 39, 40, 41, 63, 64, 99, 100, 101, 999, 1000, 1001, 1599, 1600, 1601, 4095,
        4096, 65536, 100000, 100001, 1 << 24, 1 << 30, Integer.MAX_VALUE - 1, Integer.MAX_VALUE};
    private static final int[] FEW = {Integer.MIN_VALUE, -2, -1, 0, 1, 2, 3, 11, 12, 32, Integer.MAX_VALUE};
    private static final int[] FEWER = {Integer.MIN_VALUE, -1, 0, 1, 2, 12, Integer.MAX_VALUE};
    private static final int STATES = 6;

    private ChalkChain x;
    private Model model;
    private String state;
    private int people;

    public static void main(String[] args) {
        for (int state = 0; state < STATES; state++) {
            for (int number : NUMBERS) {
                new ExtremesTest(state).one(number);
                new ExtremesTest(state).twoWithFirst(number);
                new ExtremesTest(state).twoWithSecond(number);
            }
            for (int number : FEW) {
                new ExtremesTest(state).three(number);
            }
        }
        CHECK.close("ExtremesTest");
    }

    private ExtremesTest(int number) {
        x = new ChalkChain();
        model = new Model();
        state = "state " + number;
        if (number > 0) {
            tell(text(number));
        }
        people = x.about(0);
        if (number > 3) {
            fill(number);
        }
    }

    private static String text(int number) {
        StringBuilder all = new StringBuilder();
        for (char name = 'a'; name < 'a' + 12; name++) {
            all.append(name == 'd' ? box("d") : one(String.valueOf(name), 9, name == 'b' ? 0 : 9, 99, 999));
        }
        StringBuilder steps = new StringBuilder();
        for (char name = 'b'; name < 'a' + 12; name++) {
            steps.append(gives((char) (name - 1) + "" + name + "9", name + "" + (char) (name - 1) + "1"));
        }
        switch (number) {
            case 1:
                return box("a") + "from a;to a;luck 9;";
            case 2:
                return plain("a", "b", "c") + gives("ca1", "cb1");
            default:
                return all.toString() + steps + "from a;to l;luck 9;";
        }
    }

    /** All that can be full is full, or has its last DAY and TIME. */
    private void fill(int number) {
        for (int i = 0; i < 12; i++) {
            due("send()", x.send(), model.send());
        }
        for (int i = 0; i < 40; i++) {
            due("late(4095, 9)", x.late(4095, 9), model.late(4095, 9));
        }
        for (int i = 0; i < 10; i++) {
            due("day(99)", x.day(99), model.day(99));
        }
        if (number == 5) {
            due("day(10)", x.day(10), model.day(10));
            due("take(1)", x.take(1), model.take(1));
            due("image(2)", x.image(2), model.image(2));
            for (int i = 0; i < 100; i++) {
                due("later(1000)", x.later(1000), model.later(1000));
            }
        }
    }

    private void tell(String text) {
        byte[] bytes = text.getBytes(StandardCharsets.ISO_8859_1);
        int[] n = new int[5];
        for (int from = 0; from < bytes.length; from += 20) {
            for (int i = 0; i < 20; i++) {
                n[i / 4] = n[i / 4] << 8 | (from + i < bytes.length ? bytes[from + i] : ' ');
            }
            due("feed", x.feed(n[0], n[1], n[2], n[3], n[4]), model.feed(n));
        }
        due("end", x.end(bytes.length), model.end(bytes.length));
        due("city", x.city(), model.city());
    }

    private void due(String call, long got, long want) {
        CHECK.due(state + ": " + call, got, want);
    }

    private void due(String call, boolean got, boolean want) {
        CHECK.due(state + ": " + call, got, want);
    }

    private void look() {
        for (int what = 0; what < 12; what++) {
            due("about(" + what + ")", x.about(what), model.about(what));
        }
        due("one(1, 0)", x.one(1, 0), model.one(1, 0));
        due("one(0, 2)", x.one(0, 2), model.one(0, 2));
        due("thing(0, 0)", x.thing(0, 0), model.thing(0, 0));
    }

    private void one(int n) {
        due("fault(" + n + ")", x.fault(n), model.fault(n));
        due("knows(" + n + ")", x.knows(n), model.knows(n));
        due("quick()", x.quick(), model.quick());
        due("lies(" + n + ")", x.lies(n), model.lies(n));
        due("safe(" + n + ")", x.safe(n), model.safe(n));
        due("lies(0)", x.lies(0), model.lies(0));
        due("worst(" + n + ")", x.worst(n), model.worst(n));
        due("about(" + n + ")", x.about(n), model.about(n));
        due("image(" + n + ")", x.image(n), model.image(n));
        due("day(" + n + ")", x.day(n), model.day(n));
        look();
        due("take(" + n + ")", x.take(n), model.take(n));
        due("back(" + n + ")", x.back(n), model.back(n));
        look();
        due("untell(" + n + ")", x.untell(n), model.untell(n));
        due("later(" + n + ")", x.later(n), model.later(n));
        due("feed(" + n + ")", x.feed(n, n, n, n, n), model.feed(n, n, n, n, n));
        due("end(" + n + ")", x.end(n), model.end(n));
        look();
        due("city()", x.city(), model.city());
        due("fault(0)", x.fault(0), model.fault(0));
        due("fault(1)", x.fault(1), model.fault(1));
        look();
    }

    private void twoWithFirst(int a) {
        for (int b : FEW) {
            two(a, b);
        }
        look();
    }

    private void twoWithSecond(int b) {
        for (int a : FEW) {
            two(a, b);
        }
        look();
    }

    private void two(int a, int b) {
        due("one(" + a + ", " + b + ")", x.one(a, b), model.one(a, b));
        due("thing(" + a + ", " + b + ")", x.thing(a, b), model.thing(a, b));
        due("spies(" + a + ", " + b + ")", x.spies(a, b), model.spies(a, b));
        due("late(" + a + ", " + b + ")", x.late(a, b), model.late(a, b));
        due("taken(" + a + ", " + b + ")", x.taken(a, b), model.taken(a, b));
        // The model is slow at ORIGINS of many PEOPLE.
        if (people < 12) {
            due("origins(" + a + ", " + b + ")", x.origins(a, b), model.origins(a, b));
        }
    }

    private void three(int a) {
        for (int b : FEW) {
            for (int c : a == b ? FEW : FEWER) {
                due("fall(" + a + ", " + b + ", " + c + ")", x.fall(a, b, c), model.fall(a, b, c));
                due("meet(" + a + ", " + b + ", " + c + ")", x.meet(a, b, c), model.meet(a, b, c));
            }
        }
        look();
    }
}
