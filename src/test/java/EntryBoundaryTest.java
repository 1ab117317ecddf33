/** The boundary cases of ENTRIES, of what is known by them and of about: promises 22 to 27 and 30. */
public final class EntryBoundaryTest extends Boundary {
    private static final String[] LETTERS = "a b c d e f g h i j k l".split(" ");

    public static void main(String[] args) {
        fortyAtMost();
        untoldAtTheSameTime();
        asKnownAt();
        late();
        lateRefused();
        taken();
        takenRefused();
        untell();
        later();
        laterRefused();
        setsOfThree();
        dayLessThoseOfTheSet();
        spies();
        originsTerms();
        originsDays();
        origins();
        about();
        close("EntryBoundaryTest", 22, 23, 24, 25, 26, 27, 30);
    }

    private static void fortyAtMost() {
        terms("ENTRIES, 40 at most, are TOLD at a TIME (0 at first, goes on)");
        ChalkChain x = told(plain("a", "b"));
        due("the TIME at first", x.about(7), 0);
        due("ENTRIES at first", x.about(6), 0);
        for (int i = 0; i < 40; i++) {
            due("ENTRY " + i, i % 2 == 0 ? x.late(1, 0) : x.taken(1, 7), i);
            due("ENTRIES", x.about(6), i + 1);
        }
        due("a 41st that came late", x.late(1, 0), NONE);
        due("a 41st who was TAKEN", x.taken(1, 7), NONE);
        due("ENTRIES", x.about(6), 40);
        due("the last can be UNTOLD", x.untell(39), true);
        due("a 41st, though one is UNTOLD", x.late(1, 0), NONE);
        due("a 41st, though one is UNTOLD", x.taken(1, 7), NONE);
        tell(x, plain("a"));
        due("in a CITY anew", x.late(1, 0), 0);
    }

    private static void untoldAtTheSameTime() {
        terms("UNTOLD at a later one or the same");
        ChalkChain x = told(plain("a"));
        x.later(3);
        x.late(0, 9);
        due("as TOLD", x.spies(0, 3), 0);
        due("at the same TIME", x.untell(0), true);
        for (int k = 0; k < 6; k++) {
            due("it counts at no TIME: " + k, x.spies(0, k), 2);
        }
        x.late(0, 9);
        x.later(1);
        due("at a later TIME", x.untell(1), true);
        due("it counts ahead of that", x.spies(0, 3), 0);
        due("it counts no more", x.spies(0, 4), 2);
    }

    private static void asKnownAt() {
        terms("As known at k those count that were TOLD at k or before, not UNTOLD at k or before.");
        ChalkChain x = told(plain("a", "b"));
        x.later(10);
        x.late(0, 9);
        x.taken(0, 5);
        x.later(10);
        x.untell(0);
        x.untell(1);
        int[] times = {Integer.MIN_VALUE, -1, 0, 9, 10, 11, 19, 20, 21, 100000, Integer.MAX_VALUE};
        for (int k : times) {
            boolean counts = k >= 10 && k < 20;
            due("spies as known at " + k, x.spies(0, k), counts ? 0 : 4);
            due("origins as known at " + k, x.origins(0, k), counts ? 1 : 200);
        }
        x.late(0, 8);
        due("TOLD at k", x.spies(0, 20), 0);
        due("known ahead of the TIME that is", x.spies(0, Integer.MAX_VALUE), 0);
        due("TOLD later", x.spies(0, 9), 4);
    }

    private static void late() {
        terms("what went over some PEOPLE (as bits) came so many DAYS late (0 .. 99)");
        ChalkChain x = told(plain(LETTERS));
        int entry = 0;
        for (int people : new int[] {0, 1, 2048, 4095, 1365}) {
            for (int days : new int[] {0, 1, 98, 99}) {
                due("late(" + people + ", " + days + ")", x.late(people, days), entry++);
            }
        }
        ChalkChain y = told(box("a") + plain("b"));
        due("over a BOX", y.late(1, 0), 0);
        due("over a BOX and another one", y.late(3, 0), 1);
        ChalkChain z = new ChalkChain();
        due("over nobody in an empty CITY", z.late(0, 0), 0);
        due("over nobody in an empty CITY", z.late(0, 99), 1);
    }

    private static void lateRefused() {
        promise(22, "NONE, doing nothing, if one can't be, or there are 40.");
        for (int people : new int[] {0, 1, 5, 12}) {
            StringBuilder text = new StringBuilder();
            for (int i = 0; i < people; i++) {
                text.append(plain(LETTERS[i]));
            }
            ChalkChain x = told(text.toString());
            String before = look(x);
            for (int days : wrong(100, 101, 128, 999)) {
                due("late(0, " + days + ") of " + people, x.late(0, days), NONE);
            }
            for (int bits : wrong(1 << people, (1 << people) + 1, 2 << people, 1 << 12, 1 << 13, 1 << 16, 1 << 24)) {
                due("late(" + bits + ", 0) of " + people, x.late(bits, 0), NONE);
            }
            dueSame("nothing was done, " + people, look(x), before);
            due("all of " + people, x.late((1 << people) - 1, 0), 0);
            for (int i = 1; i < 40; i++) {
                x.late(0, 0);
            }
            before = look(x);
            due("there are 40", x.late(0, 0), NONE);
            due("there are 40, and it can't be", x.late(0, 100), NONE);
            dueSame("nothing was done beyond 40", look(x), before);
        }
    }

    private static void taken() {
        terms("or one was TAKEN on a DAY (0 .. 99)");
        ChalkChain x = told(plain(LETTERS));
        int entry = 0;
        for (int one : new int[] {0, 1, 11}) {
            for (int day : new int[] {0, 1, 98, 99}) {
                due("taken(" + one + ", " + day + ")", x.taken(one, day), entry++);
            }
        }
        due("nobody is TAKEN in earnest", x.one(0, 0), 0);
    }

    private static void takenRefused() {
        promise(23, "An ENTRY of one (no BOX) who was TAKEN: its number; NONE likewise.");
        ChalkChain x = told(plain("a") + box("b") + plain("c"));
        String before = look(x);
        due("a BOX", x.taken(1, 0), NONE);
        for (int one : strangers(3)) {
            due("taken(" + one + ", 0)", x.taken(one, 0), NONE);
        }
        for (int day : wrong(100, 101, 128, 999)) {
            due("taken(0, " + day + ")", x.taken(0, day), NONE);
        }
        dueSame("nothing was done", look(x), before);
        due("beside a BOX", x.taken(2, 99), 0);
        for (int i = 1; i < 40; i++) {
            due("ENTRY", x.taken(0, 0), i);
        }
        before = look(x);
        due("there are 40", x.taken(0, 0), NONE);
        dueSame("nothing was done beyond 40", look(x), before);
        due("an empty CITY", new ChalkChain().taken(0, 0), NONE);
        ChalkChain full = told(plain(LETTERS));
        for (int one : strangers(12)) {
            due("taken(" + one + ", 0) of 12", full.taken(one, 0), NONE);
        }
    }

    private static void untell() {
        promise(24, "It is UNTOLD: true; false if it is so already, or there is none such.");
        ChalkChain x = told(plain("a"));
        due("of none", x.untell(0), false);
        for (int i = 0; i < 40; i++) {
            due("the next one", x.untell(i), false);
            x.late(1, 0);
        }
        String before = look(x);
        for (int entry : wrong(40, 41, 64, 256)) {
            due("untell(" + entry + ")", x.untell(entry), false);
        }
        dueSame("nothing was done", look(x), before);
        due("the first", x.untell(0), true);
        due("the first again", x.untell(0), false);
        x.later(1);
        due("the first again, later", x.untell(0), false);
        due("the last", x.untell(39), true);
        due("the last again", x.untell(39), false);
        due("ENTRIES", x.about(6), 40);
        x.city();
        due("of a CITY ahead", x.untell(1), false);
        // UNTOLD once more, it would count as known at 0.
        ChalkChain y = told(plain("a"));
        y.late(0, 9);
        y.untell(0);
        y.later(5);
        due("so already", y.untell(0), false);
        due("UNTOLD when it was", y.spies(0, 0), 2);
    }

    private static void later() {
        promise(25, "So much later (0 .. 1000): the TIME");
        ChalkChain x = new ChalkChain();
        due("later(0)", x.later(0), 0);
        due("later(1)", x.later(1), 1);
        due("later(999)", x.later(999), 1000);
        due("later(1000)", x.later(1000), 2000);
        due("later(0) again", x.later(0), 2000);
        due("the TIME", x.about(7), 2000);
    }

    private static void laterRefused() {
        promise(25, "NONE, doing nothing, for another number, or if it would be above 100,000.");
        ChalkChain x = new ChalkChain();
        for (int by : wrong(1001, 1002, 2000, 65536)) {
            due("later(" + by + ")", x.later(by), NONE);
        }
        due("the TIME", x.about(7), 0);
        for (int i = 1; i < 100; i++) {
            due("later(1000)", x.later(1000), 1000 * i);
        }
        due("later(1) at 99,000", x.later(1), 99001);
        due("later(1000) at 99,001", x.later(1000), NONE);
        due("the TIME", x.about(7), 99001);
        due("later(999) at 99,001", x.later(999), 100000);
        for (int by : wrong(1, 2, 1000, 1001)) {
            due("later(" + by + ") at 100,000", x.later(by), NONE);
        }
        due("later(0) at 100,000", x.later(0), 100000);
        due("an ENTRY at 100,000", x.late(0, 0), 0);
        due("UNTOLD at 100,000", x.untell(0), true);
        tell(x, plain("a"));
        due("the TIME stays", x.later(1), NONE);
        due("the TIME stays", x.about(7), 100000);
    }

    private static void setsOfThree() {
        terms("SPIES: sets of 0 to 3 PEOPLE (no BOX)");
        int[] sets = {1, 2, 4, 8, 15, 26, 42, 64, 93, 130, 176, 232, 299};
        StringBuilder text = new StringBuilder();
        for (int people = 0; people <= 12; people++) {
            ChalkChain x = told(text.toString());
            due("sets out of " + people, x.spies(0, 0), sets[people]);
            due("in all, out of " + people, x.spies(1, 0), 0);
            due("in any, out of " + people, x.spies(2, 0), (1 << people) - 1);
            if (people < 12) {
                ChalkChain y = told(text + box("z"));
                due("beside a BOX, " + people, y.spies(0, 0), sets[people]);
                due("beside a BOX, " + people + ", in any", y.spies(2, 0), (1 << people) - 1);
                text.append(plain(LETTERS[people]));
            }
        }
        ChalkChain z = told(plain("a", "b", "c", "d"));
        z.late(15, 3);
        due("of three", z.spies(0, 0), 4);
        z.late(15, 4);
        due("of four", z.spies(0, 0), 0);
        ChalkChain w = told(plain("g", "s") + gives("gs1") + "from g;to s;");
        w.late(3, 2);
        due("GATE and SEA can be spies", w.spies(1, 0), 3);
    }

    private static void dayLessThoseOfTheSet() {
        terms("by which of all that came late, and count, the DAYS less those of the set over whom it went are 0 .. luck");
        for (int luck = 0; luck <= 9; luck++) {
            ChalkChain x = told(plain("a", "b") + "luck " + luck + ";");
            for (int days = 0; days <= 12; days++) {
                x.late(1, days);
                int without = days <= luck ? 2 : 0;
                int with = days >= 1 && days - 1 <= luck ? 2 : 0;
                due("luck " + luck + ", " + days + " late", x.spies(0, 0), without + with);
                x.untell(days);
            }
        }
        ChalkChain y = told(plain("a", "b", "c"));
        y.late(3, 1);
        y.late(6, 1);
        due("all that came late", y.spies(0, 0), 2);
        due("all that came late, in any", y.spies(2, 0), 7);
        y.taken(1, 4);
        due("who was TAKEN does not count", y.spies(0, 0), 2);
        y.late(7, 0);
        due("nobody", y.spies(0, 0), 0);
    }

    private static void spies() {
        promise(26, "1: who is in all of them, 2: in any, as bits (0 without sets)");
        ChalkChain x = told(plain("a", "b"));
        x.late(1, 1);
        due("how many", x.spies(0, 0), 2);
        due("in all", x.spies(1, 0), 1);
        due("in any", x.spies(2, 0), 3);
        x.late(1, 99);
        due("without sets: how many", x.spies(0, 0), 0);
        due("without sets: in all", x.spies(1, 0), 0);
        due("without sets: in any", x.spies(2, 0), 0);
        ChalkChain full = told(plain(LETTERS));
        full.late(2048, 1);
        due("the last of 12 in all", full.spies(1, 0), 2048);
        due("all of 12 in any", full.spies(2, 0), 4095);

        promise(26, "NONE for another what.");
        for (int what : wrong(3, 4, 32, 256)) {
            due("spies(" + what + ", 0) without sets", x.spies(what, 0), NONE);
            due("spies(" + what + ", " + what + ")", full.spies(what, what), NONE);
            due("spies(" + what + ", 0) of none", new ChalkChain().spies(what, 0), NONE);
        }
    }

    private static void originsTerms() {
        terms("ORIGINS: one (no BOX) and a DAY 0 .. 99 by whose FALL then each who was TAKEN, as told by what counts, is TAKEN on"
                + " that DAY.");
        ChalkChain x = told(one("a", 9, 2, 0, 0) + one("b", 9, 3, 0, 0) + box("c") + gives("ab1", "bc1"));
        due("nobody was TAKEN", x.origins(0, 0), 200);
        due("nobody was TAKEN: no BOX", x.origins(1, 0), 3);
        due("nobody was TAKEN: the first", x.origins(2, 0), 0);
        x.late(3, 5);
        due("what came late does not count", x.origins(0, 0), 200);
        x.taken(0, 10);
        due("by a on 10 or by b on 7", x.origins(0, 0), 2);
        due("by a on 10 or by b on 7: the first", x.origins(2, 0), 10);
        x.taken(1, 12);
        due("by a alone", x.origins(1, 0), 1);
        x.taken(1, 12);
        due("told twice", x.origins(0, 0), 1);
        x.taken(1, 13);
        due("on two DAYS", x.origins(0, 0), 0);
        // GONE ones are not TAKEN.
        ChalkChain y = told(one("a", 0, 9, 0, 0) + one("b", 0, 9, 0, 0) + gives("ab1"));
        y.taken(1, 50);
        due("by himself alone", y.origins(0, 0), 1);
        due("by himself alone", y.origins(2, 0), 150);
    }

    private static void originsDays() {
        terms("one (no BOX) and a DAY 0 .. 99");
        for (int day : new int[] {0, 1, 2, 3, 50, 98, 99}) {
            ChalkChain x = told(one("a", 9, 3, 0, 0) + one("b", 9, 9, 0, 0) + gives("ab1"));
            x.taken(1, day);
            due("b on DAY " + day, x.origins(0, 0), day >= 3 ? 2 : 1);
            due("b on DAY " + day + ": the first", x.origins(2, 0), day >= 3 ? day - 3 : 100 + day);
        }
        // The longest FALL: the last of 12 on DAY 99, the first on DAY 0.
        StringBuilder row = new StringBuilder(calm(LETTERS));
        for (int i = 1; i < 12; i++) {
            row.append(gives(LETTERS[i - 1] + LETTERS[i] + "1"));
        }
        ChalkChain y = told(row.toString());
        y.taken(11, 99);
        due("all of 12", y.origins(0, 0), 12);
        due("all of 12: the first", y.origins(2, 0), 0);
        y.untell(0);
        y.taken(11, 98);
        due("a DAY ahead", y.origins(0, 0), 11);
        due("a DAY ahead: the first", y.origins(2, 0), 100 + 8);
    }

    private static void origins() {
        promise(27, "1: who can have been it, as bits, 2: 100 * the first one's number and his first DAY (NONE)");
        ChalkChain x = told(plain(LETTERS));
        due("how many of 12", x.origins(0, 0), 1200);
        due("who of 12", x.origins(1, 0), 4095);
        due("the first of 12", x.origins(2, 0), 0);
        x.taken(11, 99);
        due("the last of 12", x.origins(0, 0), 1);
        due("the last of 12", x.origins(1, 0), 2048);
        due("the last of 12", x.origins(2, 0), 1199);
        x.taken(0, 0);
        due("nobody: how many", x.origins(0, 0), 0);
        due("nobody: who", x.origins(1, 0), 0);
        due("nobody: the first", x.origins(2, 0), NONE);
        ChalkChain empty = new ChalkChain();
        due("an empty CITY: how many", empty.origins(0, 0), 0);
        due("an empty CITY: who", empty.origins(1, 0), 0);
        due("an empty CITY: the first", empty.origins(2, 0), NONE);
        ChalkChain boxes = told(box("a") + box("b"));
        due("BOXES alone", boxes.origins(0, 0), 0);
        due("BOXES alone", boxes.origins(2, 0), NONE);

        promise(27, "NONE for another what.");
        ChalkChain many = told(plain("a", "b"));
        for (int what : wrong(3, 4, 32, 256)) {
            due("origins(" + what + ", 0)", x.origins(what, 0), NONE);
            due("origins(" + what + ", 0) of many", many.origins(what, 0), NONE);
            due("origins(" + what + ", " + what + ")", boxes.origins(what, what), NONE);
            due("origins(" + what + ", 0) of none", empty.origins(what, 0), NONE);
        }
    }

    private static void about() {
        promise(30, "What 0: PEOPLE, 1: gives lines, 2: the GATE, 3: the SEA (NONE), 4: the DAY, 5: THINGS, 6: ENTRIES, 7: the TIME,"
                + " 8: bytes on the TAPE, 9: PEOPLE of the WAY that lies there, 10: THINGS that have COME, 11: LOST ones.");
        ChalkChain x = told(calm("g", "s", "a") + gives("gs1", "ga1") + "from g;to s;");
        x.send();
        x.day(1);
        x.send();
        x.send();
        x.take(0);
        x.day(3);
        x.later(6);
        x.taken(0, 1);
        x.late(0, 1);
        x.quick();
        x.feed(0, 0, 0, 0, 0);
        x.end(13);
        int[] want = {3, 2, 0, 1, 4, 3, 2, 6, 13, 2, 1, 2};
        for (int what = 0; what < want.length; what++) {
            due("about(" + what + ")", x.about(what), want[what]);
        }
        ChalkChain bare = told(plain("a"));
        due("no GATE", bare.about(2), NONE);
        due("no SEA", bare.about(3), NONE);

        promise(30, "NONE for another what.");
        for (int what : wrong(12, 13, 32, 256)) {
            due("about(" + what + ")", x.about(what), NONE);
            due("about(" + what + ") of none", new ChalkChain().about(what), NONE);
        }
    }
}
