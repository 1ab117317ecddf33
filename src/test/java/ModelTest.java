import java.util.Random;

/** Runs of calls by chance (the same ones each time) on the program and on the naive model. */
public final class ModelTest {
    private static final Check CHECK = new Check();
    /** Calls that are compared; with those that only look around all stay under the 512 that an object is used for. */
    private static final int MOST_CALLS = 440;
    private static final int MOST_CALLS_AHEAD_OF_A_TOWN = 350;

    public static void main(String[] args) {
        int runs = args.length > 0 ? Integer.parseInt(args[0]) : 1500;
        int seed = args.length > 1 ? Integer.parseInt(args[1]) : 0;
        for (int run = 0; run < runs && CHECK.failures() < 10; run++) {
            new ModelTest(seed + run).play();
        }
        CHECK.close("ModelTest");
    }

    private final Random chance;
    private final int run;
    private final ChalkChain x = new ChalkChain();
    private final Model model = new Model();
    private int people;
    private int calls;

    private ModelTest(int run) {
        this.run = run;
        this.chance = new Random(run);
    }

    private void play() {
        int towns = 1 + chance.nextInt(3);
        for (int town = 0; town < towns && calls < MOST_CALLS_AHEAD_OF_A_TOWN; town++) {
            String text = new Towns(chance).make();
            feed(text);
            due("city() of " + text, x.city(), model.city());
            due("fault(0) of " + text, x.fault(0), model.fault(0));
            due("fault(1) of " + text, x.fault(1), model.fault(1));
            people = Math.max(1, x.about(0));
            int more = 20 + chance.nextInt(100);
            for (int i = 0; i < more && calls < MOST_CALLS; i++) {
                step();
            }
        }
    }

    private void feed(String text) {
        int[] n = new int[5];
        for (int from = 0; from < text.length(); from += 20) {
            for (int i = 0; i < 20; i++) {
                n[i / 4] = n[i / 4] << 8 | (from + i < text.length() ? text.charAt(from + i) : ' ');
            }
            due("feed", x.feed(n[0], n[1], n[2], n[3], n[4]), model.feed(n));
        }
        due("end", x.end(text.length()), model.end(text.length()));
    }

    private void due(String call, long got, long want) {
        calls++;
        CHECK.due("run " + run + ", call " + calls + ": " + call, got, want);
    }

    private int one() {
        return chance.nextInt(30) == 0 ? chance.nextInt(20) - 4 : chance.nextInt(people);
    }

    private int upTo(int most) {
        return chance.nextInt(25) == 0 ? chance.nextInt(4) == 0 ? chance.nextInt() : -1 + chance.nextInt(2) * (most + 2)
                : chance.nextInt(most + 1);
    }

    private void step() {
        int kind = chance.nextInt(100);
        if (kind < 25) {
            stepOfWays();
        } else if (kind < 70) {
            stepInEarnest();
        } else {
            stepOfEntries();
        }
    }

    private void stepOfWays() {
        int a = one();
        int b = one();
        int what = upTo(1);
        switch (chance.nextInt(9)) {
            case 0 -> due("knows(" + a + ")", x.knows(a), model.knows(a));
            case 1 -> due("quick()", x.quick(), model.quick());
            case 2 -> due("safe(" + what + ")", x.safe(what), model.safe(what));
            case 3 -> due("cheap()", x.cheap(), model.cheap());
            case 4 -> due("apart()", x.apart(), model.apart());
            case 5 -> due("cut()", x.cut(), model.cut());
            case 6, 7 -> due("fall(" + a + "," + b + "," + what + ")", x.fall(a, b, what), model.fall(a, b, what));
            default -> due("worst(" + what + ")", x.worst(what), model.worst(what));
        }
        lookAtWay();
    }

    private void lookAtWay() {
        for (int i = -1; i < 4; i++) {
            int at = i == 3 ? upTo(11) : i;
            due("lies(" + at + ")", x.lies(at), model.lies(at));
        }
        due("about(9)", x.about(9), model.about(9));
    }

    private void stepInEarnest() {
        int a = one();
        int b = one();
        int c = one();
        switch (chance.nextInt(12)) {
            case 0, 1 -> due("send()", x.send(), model.send());
            case 2, 3, 4 -> {
                int days = chance.nextInt(8) == 0 ? upTo(99) : chance.nextInt(4);
                due("day(" + days + ")", x.day(days), model.day(days));
            }
            case 5 -> due("take(" + a + ")", x.take(a), model.take(a));
            case 6, 7 -> due("meet(" + a + "," + b + "," + c + ")", x.meet(a, b, c) ? 1 : 0, model.meet(a, b, c) ? 1 : 0);
            case 8 -> {
                due("gap()", x.gap(), model.gap());
                lookAtWay();
            }
            case 9 -> {
                int box = upTo(2);
                due("image(" + box + ")", x.image(box), model.image(box));
            }
            case 10 -> {
                int box = upTo(2);
                due("back(" + box + ")", x.back(box), model.back(box));
            }
            default -> {
                int what = upTo(11);
                due("about(" + what + ")", x.about(what), model.about(what));
            }
        }
        for (int i = 0; i < 3; i++) {
            int who = one();
            int thing = upTo(4);
            int what = upTo(4);
            due("one(" + who + "," + what + ")", x.one(who, what), model.one(who, what));
            due("thing(" + thing + "," + what + ")", x.thing(thing, what), model.thing(thing, what));
        }
    }

    private void stepOfEntries() {
        int what = upTo(2);
        int k = chance.nextInt(10) == 0 ? chance.nextInt() : chance.nextInt(1 + Math.max(1, x.about(7) + 1));
        switch (chance.nextInt(8)) {
            case 0, 1 -> {
                int over = chance.nextInt(20) == 0 ? chance.nextInt(10000) - 100 : chance.nextInt(1 << people);
                over = chance.nextInt(20) == 0 ? 0 : over;
                int days = chance.nextInt(4) == 0 ? upTo(99) : chance.nextInt(4);
                due("late(" + over + "," + days + ")", x.late(over, days), model.late(over, days));
            }
            case 2, 3 -> {
                int who = one();
                int day = chance.nextInt(4) == 0 ? upTo(99) : chance.nextInt(12);
                due("taken(" + who + "," + day + ")", x.taken(who, day), model.taken(who, day));
            }
            case 4 -> {
                int entry = upTo(6);
                due("untell(" + entry + ")", x.untell(entry) ? 1 : 0, model.untell(entry) ? 1 : 0);
            }
            case 5 -> {
                int by = chance.nextInt(10) == 0 ? upTo(1000) : chance.nextInt(3);
                due("later(" + by + ")", x.later(by), model.later(by));
            }
            case 6 -> due("spies(" + what + "," + k + ")", x.spies(what, k), model.spies(what, k));
            default -> due("origins(" + what + "," + k + ")", x.origins(what, k), model.origins(what, k));
        }
    }
}
