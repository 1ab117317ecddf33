import java.io.IOException;
import java.nio.file.Files;
import java.nio.file.Path;
import java.util.ArrayList;
import java.util.List;
import java.util.regex.Matcher;
import java.util.regex.Pattern;
import java.util.stream.Stream;

/**
 * The document once more from its first line: the sentences that the boundary tests don't quote, and whether each word of
 * the document is quoted somewhere.
 */
public final class DocumentTest extends Boundary {
    private static final String[] LETTERS = "a b c d e f g h i j k l".split(" ");
    private static final String ENDS = "from g;to s;";
    /** One of each kind: a PLAIN, b BLIND, c BOUGHT, d a BOX; the quickest WAY is over a, the safest over b, the cheapest over c. */
    private static final String TOWN = one("g", 3, 2, 99, 999) + one("a", 0, 2, 50, 50)
            + "one b blind slow 0 holds 0 risk 10 keeps 60;one c bought slow 0 holds 5 risk 40 keeps 1;"
            + "one d box slow 0 holds 0 risk 40 keeps 1;" + one("s", 9, 9, 99, 999)
            + gives("ga1", "as1", "gb5", "bs5", "gc3", "cd3", "ds3") + ENDS;

    public static void main(String[] args) throws IOException {
        chainOfStrangers();
        waysToTheSea();
        whoFalls();
        daysInEarnest();
        twoTimes();
        behindTheLastCall();
        lines();
        eachLine();
        tokens();
        terms();
        thingsGoOn();
        orderOfADay();
        byHandAndMeeting();
        noneIsThere();
        wayLies();
        headsOfWays();
        headsOfFall();
        headsInEarnest();
        headsOfEntries();
        fullImages();
        askingChangesNothing();
        objectsAreApart();
        close("DocumentTest", 1, 7, 8, 10, 12, 14, 17, 18, 19, 20, 21, 22, 26, 27, 28);
        everyWordIsQuoted();
    }

    // ---- What it is ----

    private static void chainOfStrangers() {
        head("A chain of strangers: a city under a ban in which each knows only from whom he has and to whom he gives");
        StringBuilder text = new StringBuilder(plain(LETTERS));
        for (int i = 1; i < 12; i++) {
            text.append(gives(LETTERS[i - 1] + LETTERS[i] + "1"));
        }
        ChalkChain x = told(text.toString());
        for (int i = 0; i < 12; i++) {
            due("knows(" + i + ")", x.knows(i), (i > 0 ? 1 << i - 1 : 0) + (i < 11 ? 1 << i + 1 : 0));
        }

        head("people of four kinds, who gives to whom in how many days, told in a text");
        ChalkChain y = told(TOWN);
        due("PEOPLE", y.about(0), 6);
        due("gives lines", y.about(1), 7);
        int[] known = {2 + 4 + 8, 1 + 32, 32, 1, 0, 2 + 4};
        for (int one = 0; one < 6; one++) {
            due("knows(" + one + ")", y.knows(one), known[one]);
        }
    }

    private static void waysToTheSea() {
        head("the quickest way to the sea, the safest, the cheapest; ways that share nobody, the fewest whose loss bars all");
        ChalkChain x = told(TOWN);
        due("quick", x.quick(), 2);
        dueWay("quick", x, 0, 1, 5);
        due("safe(0)", x.safe(0), 9);
        due("safe(1)", x.safe(1), 10);
        dueWay("safe", x, 0, 2, 5);
        due("cheap", x.cheap(), 2);
        dueWay("cheap", x, 0, 3, 4, 5);
        due("apart", x.apart(), 3);
        due("cut", x.cut(), 2 + 4 + 8);
    }

    private static void whoFalls() {
        head("who falls as one is taken, day by day, by what each knows and how long he holds");
        ChalkChain x = told(TOWN);
        int[][] taken = {{0, NONE, 2, 2, NONE, 2}, {2, 0, NONE, 4, NONE, 2}, {NONE, NONE, 0, NONE, NONE, 0},
            {0, NONE, 2, 0, NONE, 2}, {-2, -2, -2, -2, -2, -2}, {NONE, NONE, NONE, NONE, NONE, 0}};
        int[][] gone = {{NONE, 1, NONE, NONE, NONE, NONE}, {NONE, NONE, 3, NONE, NONE, NONE}, {4, 1, NONE, NONE, NONE, NONE},
            {NONE, 1, NONE, NONE, NONE, NONE}, {-2, -2, -2, -2, -2, -2}, {NONE, 1, 1, NONE, NONE, NONE}};
        for (int one = 0; one < 6; one++) {
            for (int other = 0; other < 6; other++) {
                due("fall(" + one + ", " + other + ", 0)", x.fall(one, other, 0), taken[one][other]);
                due("fall(" + one + ", " + other + ", 1)", x.fall(one, other, 1), gone[one][other]);
            }
        }
        due("worst(0)", x.worst(0), 0);
        due("worst(1)", x.worst(1), 4);
    }

    private static void daysInEarnest() {
        head("days in earnest in which things are handed on, people are taken, tell, flee, gaps are closed by new acquaintances");
        ChalkChain x = told(calm("g", "s", "a") + one("f", 0, 9, 0, 0) + gives("ga1", "as2", "fg1", "fs1") + ENDS);
        due("send", x.send(), 0);
        due("image", x.image(1), 0);
        due("day", x.day(1), 1);
        dueThing("handed on", x, 0, 2, 0, NONE, 1, 3);
        due("take", x.take(2), 1);
        due("day", x.day(1), 2);
        dueThing("LOST", x, 0, -2, 0, 2, NONE, NONE);
        due("send", x.send(), 1);
        dueThing("no NEXT", x, 1, 0, 2, NONE, NONE, NONE);
        due("gap", x.gap(), 1);
        dueWay("gap", x, 0, 1);
        due("meet", x.meet(0, 1, 3), true);
        due("gap is closed", x.gap(), 0);
        due("day", x.day(1), 3);
        dueThing("NEXT", x, 1, 0, 2, NONE, 1, 4);
        due("day", x.day(1), 4);
        dueThing("COME", x, 1, -3, 2, 4, NONE, NONE);
        due("day", x.day(5), 9);
        due("a has not told as yet", x.one(0, 0), 0);
        due("day", x.day(1), 10);
        due("a tells: g", x.one(0, 1), 10);
        due("a tells: s", x.one(1, 1), 10);
        due("day", x.day(1), 11);
        due("f flees", x.one(3, 0), 2);
        due("f flees", x.one(3, 1), 11);

        head("images gone on from.");
        due("back", x.back(1), 0);
        dueThing("as it was kept", x, 0, 0, 0, NONE, 2, 1);
        due("gone on from", x.day(3), 3);
        dueThing("another end", x, 0, -3, 0, 3, NONE, NONE);
        due("back", x.back(1), 0);
        due("from the same image again", x.take(2), 1);
        x.day(1);
        dueThing("a third end", x, 0, 0, 0, NONE, NONE, NONE);
    }

    private static void twoTimes() {
        head("where a spy can be, by what came late, and who can have been taken first, by who was taken when, both known in two times");
        ChalkChain x = told(TOWN);
        x.late(1 + 2, 1);
        x.taken(0, 2);
        x.later(1);
        x.late(1, 0);
        x.taken(3, 4);
        x.later(1);
        x.untell(0);
        x.untell(1);
        int[] sets = {14, 7, 15};
        int[] inAll = {0, 2, 0};
        int[] inAny = {47, 46, 46};
        // By g on DAY 2, a on DAY 0, or c, which is on DAY 2 as g is TAKEN with him and on DAY 4 as he is TAKEN himself.
        int[] origins = {3, 2, 3};
        int[] who = {1 + 2 + 8, 1 + 2, 1 + 2 + 8};
        int[] first = {2, 2, 2};
        for (int k = 0; k < 3; k++) {
            due("spies(0, " + k + ")", x.spies(0, k), sets[k]);
            due("spies(1, " + k + ")", x.spies(1, k), inAll[k]);
            due("spies(2, " + k + ")", x.spies(2, k), inAny[k]);
            due("origins(0, " + k + ")", x.origins(0, k), origins[k]);
            due("origins(1, " + k + ")", x.origins(1, k), who[k]);
            due("origins(2, " + k + ")", x.origins(2, k), first[k]);
        }
    }

    private static void behindTheLastCall() {
        head("what later calls answer is free.");
        ChalkChain x = told(TOWN);
        int made = 0;
        for (int i = 0; i < 4000; i++) {
            callAny(x, i % 29, i % 17 - 2);
            made++;
        }
        due("calls that end", made, 4000);
    }

    /** Any of the calls, with numbers of all sorts. */
    private static void callAny(ChalkChain x, int which, int n) {
        switch (which) {
            case 0 -> x.feed(n, n, n, n, n);
            case 1 -> x.end(n);
            case 2 -> x.fault(n);
            case 3 -> x.day(n);
            case 4 -> x.take(n);
            case 5 -> x.meet(n, n + 1, n + 2);
            case 6 -> x.gap();
            case 7 -> x.late(n, n);
            case 8 -> x.taken(n, n);
            case 9 -> x.untell(n);
            case 10 -> x.later(n);
            case 11 -> x.image(n);
            case 12 -> x.back(n);
            case 13 -> x.send();
            case 14 -> x.cheap();
            default -> ask(x, which - 15, n);
        }
    }

    /** Any of the calls that only ask; those that lay a WAY are not among them. */
    private static long ask(ChalkChain x, int which, int n) {
        return switch (which) {
            case 0 -> x.fault(n);
            case 1 -> x.knows(n);
            case 2 -> x.lies(n);
            case 3 -> x.apart();
            case 4 -> x.cut();
            case 5 -> x.fall(n, n, n);
            case 6 -> x.fall(0, n, 0);
            case 7 -> x.worst(n);
            case 8 -> x.one(n, n);
            case 9 -> x.one(n, 2);
            case 10 -> x.thing(n, n);
            case 11 -> x.spies(n, n);
            case 12 -> x.origins(n, n);
            default -> x.about(n);
        };
    }

    // ---- Terms ----

    private static void dueTold(String text, int people) {
        ChalkChain x = new ChalkChain();
        due("city() of " + text, Check.tell(x, text), people);
        due("fault(0) of " + text, x.fault(0), 0);
    }

    private static void lines() {
        terms(": city = {line}.");
        dueTold("", 0);
        dueTold("luck 1;", 0);
        // Lines of all sorts in any order, as long as whom they name is told ahead.
        dueTold("luck 1;" + plain("a") + "from a;" + plain("b") + gives("ba1") + "to b;" + plain("c") + gives("ab1", "cb1"), 3);
        dueTold(plain("a", "b") + "to b;luck 0;from a;" + gives("ab1") + plain("c"), 3);
        ChalkChain x = told("luck 1;" + plain("a") + "from a;" + plain("b") + gives("ba1") + "to b;" + gives("ab7"));
        due("the GATE", x.about(2), 0);
        due("the SEA", x.about(3), 1);
        due("gives lines", x.about(1), 2);
        due("quick", x.quick(), 7);
    }

    private static void eachLine() {
        terms("line = one NAME [blind | bought | box] slow N holds N risk N keeps N ;  |  gives NAME NAME takes N ;"
                + "  |  from NAME ;  |  to NAME ;  |  luck N ;.");
        String two = "one x slow 1 holds 2 risk 30 keeps 400 ; one y blind slow 0 holds 3 risk 4 keeps 5 ; ";
        dueTold(two, 2);
        dueTold(two + "one z bought slow 0 holds 0 risk 0 keeps 0 ;", 3);
        dueTold(two + "one z box slow 0 holds 0 risk 0 keeps 0 ;", 3);
        dueTold(two + "gives x y takes 3 ; gives y x takes 4 ; from x ; to y ; luck 5 ;", 2);
        // Each number is that of its own word, in a FALL, in odds and in what is kept.
        ChalkChain x = told("one g slow 9 holds 4 risk 0 keeps 0;one m blind slow 3 holds 9 risk 25 keeps 17;"
                + "one s slow 9 holds 9 risk 0 keeps 0;gives g m takes 2;gives m s takes 6;from g;to s;luck 3;");
        due("holds", x.fall(0, 1, 0), 4);
        due("slow", x.fall(2, 1, 1), 4);
        due("risk, upper", x.safe(0), 3);
        due("risk, lower", x.safe(1), 4);
        due("keeps", x.cheap(), 17);
        due("takes", x.quick(), 8);
        x.late(0, 3);
        due("luck", x.spies(0, 0), 8);
        x.late(0, 4);
        due("beyond luck", x.spies(0, 0), 0);
    }

    private static void tokens() {
        terms("TOKENS: words (a .. z, 8 at most)");
        dueTold("one\nabcdefgh box\nslow0 holds 0\n\nrisk 0 keeps 0;from abcdefgh;to\nabcdefgh  ;", 1);
        terms("KNOWS: who gives to another one KNOWS him");
        due("the giver", told(plain("a", "b") + gives("ba1")).knows(1), 1);
    }

    private static void terms() {
        terms("A WAY: a row of PEOPLE from the GATE to the SEA, nobody twice, each of whom gives to the next one; BETWEEN are all but"
                + " these two.");
        ChalkChain x = told(one("g", 0, 0, 50, 7) + one("s", 0, 0, 50, 7) + one("a", 0, 0, 0, 0) + gives("ga1", "as1") + ENDS);
        due("neither GATE nor SEA is at risk", x.safe(1), 1);
        due("neither GATE nor SEA keeps", x.cheap(), 0);
        due("neither GATE nor SEA bars", x.cut(), 4);

        terms("It takes what these take, together.");
        for (int first = 1; first <= 9; first++) {
            due("takes " + first + " and 9", told(plain("g", "s", "a") + gives("ga" + first, "as9") + ENDS).quick(), first + 9);
        }

        terms("QUICK: the WAY that takes least.");
        ChalkChain y = told(plain("g", "s", "a", "b") + gives("gs8", "ga3", "ab2", "bs2", "as6") + ENDS);
        due("7 of 7, 8 and 9", y.quick(), 7);
        dueWay("7 of 7, 8 and 9", y, 0, 2, 3, 1);

        terms("the product of (100 - risk) / 100 of all BETWEEN.");
        for (int risk = 0; risk <= 99; risk++) {
            ChalkChain z = told(plain("g", "s") + one("a", 0, 0, risk, 0) + one("b", 0, 0, 99, 0) + gives("ga1", "ab1", "bs1") + ENDS);
            long upper = z.safe(0);
            long lower = z.safe(1);
            due("risk " + risk + " and 99", upper * 10000, (100 - risk) * lower);
        }

        terms("CHEAP: that for whose BETWEEN keeps, together, is least.");
        ChalkChain w = told(plain("g", "s") + one("a", 0, 0, 0, 9) + one("b", 0, 0, 0, 4) + one("c", 0, 0, 0, 4)
                + gives("ga1", "as1", "gb9", "bc9", "cs9") + ENDS);
        due("4 and 4 are less than 9", w.cheap(), 8);
        dueWay("4 and 4 are less than 9", w, 0, 3, 4, 1);
    }

    private static void thingsGoOn() {
        terms("A THING is SENT: it comes to the GATE. Whoever has a THING hands it on to his NEXT:");
        ChalkChain x = told(calm("s", "a", "g") + gives("ga2", "as2") + ENDS);
        x.send();
        dueThing("at the GATE", x, 0, 2, 0, NONE, 1, 2);
        x.day(1);
        x.send();
        x.day(1);
        dueThing("to his NEXT", x, 0, 1, 0, NONE, 0, 4);
        dueThing("a DAY behind", x, 1, 2, 1, NONE, 1, 3);
        x.day(1);
        dueThing("each by itself", x, 0, 1, 0, NONE, 0, 4);
        dueThing("each by itself", x, 1, 1, 1, NONE, 0, 5);
        x.day(2);
        dueThing("one behind the other", x, 0, -3, 0, 4, NONE, NONE);
        dueThing("one behind the other", x, 1, -3, 1, 5, NONE, NONE);

        terms("He chooses as he gets it (at the end of that DAY), and anew at the end of each DAY");
        // Another THING that is SENT makes nobody choose anew ahead of the end of the DAY.
        ChalkChain y = told(calm("g", "s", "a") + gives("ag1", "as1") + ENDS);
        y.send();
        due("they meet", y.meet(0, 1, 2), true);
        y.send();
        dueThing("the other one", y, 1, 0, 0, NONE, 1, 1);
        dueThing("not as yet", y, 0, 0, 0, NONE, NONE, NONE);
        y.day(1);
        dueThing("the other one has COME", y, 1, -3, 0, 1, NONE, NONE);
        dueThing("at the end of the DAY", y, 0, 0, 0, NONE, 1, 2);
        ChalkChain z = told(calm("g", "s", "a", "b") + gives("ga1", "as1", "gb2", "bs2") + ENDS);
        z.send();
        z.take(2);
        z.send();
        dueThing("another NEXT for the other one", z, 1, 0, 0, NONE, 3, 2);
        dueThing("NEXT as it was", z, 0, 0, 0, NONE, 2, 1);
    }

    private static void orderOfADay() {
        terms("In a DAY, in this order: THINGS that are due are handed on, by their numbers, by such as are THERE to a NEXT who is THERE;"
                + " PEOPLE are TAKEN by what is told; then some are GONE; THINGS that are held by such as are not THERE are LOST;"
                + " then it is chosen.");
        // On DAY 3 t tells of p, to whom a THING is due, and of q, who would be GONE; h, who has a THING, is GONE.
        ChalkChain x = told(calm("g", "s") + one("h", 2, 9, 0, 0) + calm("p") + one("q", 2, 9, 0, 0) + calm("r")
                + kind("t", "blind", 9, 3) + calm("c")
                + gives("gh1", "hs4", "gp2", "gr9", "rs9", "ht1", "tp1", "tq1", "cp1", "cs1") + ENDS);
        due("take", x.take(6), 1);
        x.send();
        dueThing("to h", x, 0, 0, 0, NONE, 2, 1);
        x.day(1);
        dueThing("h has it", x, 0, 2, 0, NONE, 1, 5);
        due("p and s meet", x.meet(3, 1, 7), true);
        x.send();
        dueThing("to p", x, 1, 0, 1, NONE, 3, 3);
        x.day(1);
        x.send();
        dueThing("to p too", x, 2, 0, 2, NONE, 3, 4);
        x.day(1);
        due("p is TAKEN", x.one(3, 0), 1);
        due("p is TAKEN on DAY 3", x.one(3, 1), 3);
        due("q is TAKEN, not GONE", x.one(4, 0), 1);
        due("h is GONE", x.one(2, 0), 2);
        due("h is GONE on DAY 3", x.one(2, 1), 3);
        dueThing("LOST with h, who is GONE", x, 0, -2, 0, 3, NONE, NONE);
        dueThing("handed on to p, LOST with him", x, 1, -2, 1, 3, NONE, NONE);
        dueThing("r is chosen, as p and h are not THERE", x, 2, 0, 2, NONE, 5, 12);
    }

    private static void byHandAndMeeting() {
        terms("One can be TAKEN by hand (on the DAY that is");
        ChalkChain x = told(calm("a", "b"));
        x.day(7);
        due("take", x.take(1), 1);
        due("on the DAY that is", x.one(1, 1), 7);
        due("nobody else", x.one(0, 0), 0);

        terms("Two can MEET: a gives to b from now on (it takes 1)");
        // b is met on DAY 4; a, who holds 2, is TAKEN on DAY 5 and tells of him on DAY 7.
        ChalkChain y = told(one("a", 9, 2, 0, 0) + kind("b", "blind", 9, 9) + kind("c", "blind", 9, 9) + gives("ca1", "cb1") + "from a;to b;");
        due("no WAY as told", y.quick(), NONE);
        y.day(4);
        due("meet", y.meet(0, 1, 2), true);
        due("no WAY as told, still", y.quick(), NONE);
        due("a WAY now", y.gap(), 0);
        y.day(1);
        due("take", y.take(0), 1);
        y.day(1);
        due("not as yet", y.one(1, 0), 0);
        y.day(1);
        due("whom he met is told of", y.one(1, 0), 1);
        due("as late as he holds", y.one(1, 1), 7);
        // b alone KNOWS a by having met, and flees.
        ChalkChain z = told(kind("a", "blind", 9, 9) + kind("b", "blind", 1, 9) + kind("c", "bought", 9, 9) + gives("ca1", "cb1"));
        due("meet", z.meet(0, 1, 2), true);
        z.take(0);
        z.day(1);
        due("he sees it", z.one(1, 0), 0);
        z.day(1);
        due("he flees", z.one(1, 0), 2);
    }

    private static void noneIsThere() {
        terms("The constants: `NONE = -1`: There is none.");
        due("NONE", ChalkChain.NONE, -1);
        due("no GATE", new ChalkChain().about(2), ChalkChain.NONE);
    }

    // ---- the heads of promises ----

    private static void wayLies() {
        promise(10, "The i-th of the WAY that lies there");
        ChalkChain x = told(TOWN + "luck 1;");
        x.cheap();
        dueWay("behind cheap()", x, 0, 3, 4, 5);
        for (int which = 0; which < 14; which++) {
            for (int n = -1; n < 14; n++) {
                ask(x, which, n);
            }
            due("it lies there behind asking " + which, x.about(9), 4);
        }
        x.meet(0, 5, 1);
        due("behind meet", x.lies(1), 3);
        x.send();
        due("behind send", x.lies(1), 3);
        x.day(2);
        due("behind day", x.lies(1), 3);
        x.image(0);
        due("behind image", x.lies(1), 3);
        x.take(3);
        due("behind take", x.lies(1), 3);
        x.back(0);
        due("behind back", x.lies(1), 3);
        x.late(1, 1);
        x.taken(1, 1);
        x.untell(0);
        x.later(1);
        due("behind ENTRIES", x.lies(1), 3);
        Check.put(x, "one".getBytes());
        due("behind feed and end", x.lies(1), 3);
        due("a FAULT", x.city(), NONE);
        dueWay("behind a FAULT", x, 0, 3, 4, 5);
        x.quick();
        dueWay("another one", x, 0, 1, 5);
    }

    private static void headsOfWays() {
        ChalkChain x = told(TOWN);
        promise(7, "QUICK: the DAYS it takes");
        due("quick", x.quick(), 2);
        promise(8, "SAFE: its odds");
        due("upper part", x.safe(0), 9);
        due("lower part", x.safe(1), 10);
        promise(12, "CUT; NONE if there is none");
        due("cut", x.cut(), 14);
        due("none", told(TOWN + gives("gs1")).cut(), NONE);
    }

    private static void headsOfFall() {
        promise(14, "WORST what 0: who, 1: how many are TAKEN");
        // None of them KNOWS who gives to him: d tells of e, e of a, a of b.
        ChalkChain x = told(kind("a", "blind", 9, 0) + kind("b", "blind", 9, 0) + plain("c") + kind("d", "blind", 9, 0)
                + kind("e", "blind", 9, 0) + gives("de1", "ea1", "ab1"));
        due("who", x.worst(0), 3);
        due("how many", x.worst(1), 4);
    }

    private static void headsInEarnest() {
        promise(17, "One is TAKEN by hand: how many are then");
        ChalkChain x = told(TOWN);
        due("he alone, who holds 2", x.take(0), 1);
        ChalkChain y = told(TOWN);
        due("a BOUGHT one and who gave to him", y.take(3), 2);
        due("at once", y.one(0, 1), 0);
        ChalkChain z = told(TOWN);
        due("who holds 0 and to whom he gives", z.take(2), 2);
        due("the rest, one by one", z.take(0), 1);

        promise(18, "a and b MEET by c: true");
        ChalkChain w = told(TOWN);
        due("b and c meet by g", w.meet(2, 3, 0), true);
        due("b KNOWS c", w.one(2, 2), 32 + 8);
        due("c KNOWS b", w.one(3, 2), 1 + 4);
        due("g KNOWS whom he knew", w.one(0, 2), 14);

        promise(19, "Of one in earnest what 0: 0 THERE, 1 TAKEN, 2 GONE");
        w.take(0);
        w.day(1);
        int[] states = {1, 2, 0, 0, 0, 0};
        for (int one = 0; one < 6; one++) {
            due("one(" + one + ", 0)", w.one(one, 0), states[one]);
        }

        promise(20, "Of a THING what 0: who has it");
        ChalkChain v = told(calm("s", "a", "b", "g") + gives("gb1", "ba1", "as1") + ENDS);
        v.send();
        int[] holders = {3, 2, 1, -3, -3};
        for (int day = 0; day < holders.length; day++) {
            due("thing(0, 0) on DAY " + day, v.thing(0, 0), holders[day]);
            v.day(1);
        }

        promise(21, "GAP: how many acquaintances");
        ChalkChain u = told(calm("g", "s", "a", "b") + gives("ag1", "ab1", "bs1") + ENDS);
        due("gap", u.gap(), 1);
        dueWay("gap", u, 0, 3, 1);
    }

    private static void headsOfEntries() {
        promise(22, "An ENTRY of what came late: its number");
        ChalkChain x = told(TOWN);
        due("the first", x.late(1, 2), 0);
        due("behind one who was TAKEN", x.taken(1, 2) + x.late(3, 4), 1 + 2);
        due("behind one that is UNTOLD", x.untell(2) ? x.late(0, 0) : NONE, 3);

        promise(26, "SPIES what 0: how many sets");
        ChalkChain y = told(TOWN);
        due("without ENTRIES", y.spies(0, 0), 1 + 5 + 10 + 10);
        y.late(2, 1);
        due("a is one", y.spies(0, 0), 1 + 4 + 6);

        promise(27, "ORIGINS what 0: how many");
        ChalkChain z = told(TOWN);
        due("without ENTRIES", z.origins(0, 0), 500);
        z.taken(5, 2);
        due("s on DAY 2", z.origins(0, 0), 5);
        due("s on DAY 2: the first", z.origins(2, 0), 0);
    }

    /** Twelve PEOPLE and twelve THINGS: of each the last one is kept too. */
    private static void fullImages() {
        promise(28, "All in earnest (the DAY, PEOPLE, who met, THINGS) is kept");
        ChalkChain x = told(calm(LETTERS) + gives("al9", "kl1", "kb1") + "from a;to l;");
        x.image(0);
        x.day(5);
        for (int i = 0; i < 12; i++) {
            due("send", x.send(), i);
        }
        x.image(1);
        x.day(9);
        due("they meet", x.meet(11, 1, 10), true);
        due("take", x.take(11), 1);
        x.image(2);
        dueLast("kept last", x, 1, 14, 1 + 2 + 1024, -3, 5, 14, NONE, NONE);
        x.back(0);
        due("they meet on DAY 0", x.meet(11, 2, 10), false);
        due("take on DAY 0", x.take(11), 1);
        for (int i = 0; i < 12; i++) {
            due("send on DAY 0", x.send(), i);
        }
        dueLast("another row of DAYS", x, 1, 0, 1 + 1024, 0, 0, NONE, NONE, NONE);
        x.back(1);
        dueLast("back to DAY 5", x, 0, NONE, 1 + 1024, 0, 5, NONE, 11, 14);
        due("they have not met", x.meet(11, 1, 10), true);
        x.back(2);
        dueLast("back to DAY 14", x, 1, 14, 1 + 2 + 1024, -3, 5, 14, NONE, NONE);
        x.back(1);
        dueLast("back to DAY 5 again", x, 0, NONE, 1 + 1024, 0, 5, NONE, 11, 14);
        x.back(0);
        due("back to DAY 0: the last one", x.one(11, 0), 0);
        due("back to DAY 0: THINGS", x.about(5), 0);
        due("back to DAY 0: the last THING", x.thing(11, 0), -4);
    }

    /** Of the last one his state, since when and whom he KNOWS, then all of the last THING. */
    private static void dueLast(String call, ChalkChain x, int state, int since, int known, int... thing) {
        due(call + ": one(11, 0)", x.one(11, 0), state);
        due(call + ": one(11, 1)", x.one(11, 1), since);
        due(call + ": one(11, 2)", x.one(11, 2), known);
        dueThing(call, x, 11, thing);
    }

    // ---- Not promised ----

    /** A CITY in which there is something of everything. */
    private static ChalkChain busy() {
        ChalkChain x = told(TOWN + "luck 1;");
        x.meet(2, 3, 0);
        x.send();
        x.day(1);
        x.take(5);
        x.send();
        x.later(3);
        x.late(3, 1);
        x.taken(1, 1);
        x.image(1);
        x.quick();
        Check.put(x, "one".getBytes());
        return x;
    }

    private static void askingChangesNothing() {
        rest("Nothing is promised beyond the answers and state changes described above");
        for (int which = 0; which < 14; which++) {
            ChalkChain x = busy();
            String before = look(x);
            for (int n = -1; n < 14; n++) {
                long answer = ask(x, which, n);
                due("asked twice, " + which + " with " + n, ask(x, which, n), answer);
            }
            dueSame("asked " + which, look(x), before);
            due("bytes", x.about(8), 3);
        }
        // A WAY that is laid changes what lies there and nothing else.
        ChalkChain y = busy();
        String before = look(y);
        y.safe(0);
        y.cheap();
        y.gap();
        y.quick();
        dueSame("WAYS laid", look(y), before);
        // The DAY and the TIME go each by itself.
        y.day(2);
        due("the TIME", y.about(7), 3);
        y.later(2);
        due("the DAY", y.about(4), 3);
    }

    private static void objectsAreApart() {
        promise(1, "An empty CITY.");
        ChalkChain x = told(TOWN);
        x.quick();
        x.send();
        x.day(3);
        x.image(0);
        x.late(1, 1);
        x.later(9);
        Check.put(x, "luck 1;".getBytes());
        ChalkChain y = new ChalkChain();
        int[] about = {0, 0, NONE, NONE, 0, 0, 0, 0, 0, 0, 0, 0};
        for (int what = 0; what < about.length; what++) {
            due("a new one beside another: about(" + what + ")", y.about(what), about[what]);
        }
        due("a new one has no image", y.back(0), NONE);
        tell(y, plain("z"));
        y.day(50);
        int[] busy = {6, 7, 0, 5, 3, 1, 1, 9, 7, 3, 1, 0};
        for (int what = 0; what < busy.length; what++) {
            due("the other one beside it: about(" + what + ")", x.about(what), busy[what]);
        }
        due("the other one has its image", x.back(0), 3);
    }

    // ---- whether all of it is quoted ----

    private record Quotation(String where, String words) {
    }

    private static List<Quotation> quotations() throws IOException {
        Pattern call = Pattern.compile("\\b(head|terms|promise|rest)\\(\\s*(?:(\\d+),\\s*)?((?:\"(?:[^\"\\\\]|\\\\.)*\"(?:\\s*\\+\\s*)?)+)\\)");
        List<Quotation> all = new ArrayList<>();
        try (Stream<Path> files = Files.list(Path.of("src/test/java"))) {
            for (Path file : files.filter(name -> name.toString().endsWith("Test.java")).toList()) {
                Matcher m = call.matcher(Files.readString(file));
                while (m.find()) {
                    String words = m.group(3).replaceAll("\"\\s*\\+\\s*\"", "").strip();
                    all.add(new Quotation(section(m.group(1), m.group(2)), words.substring(1, words.length() - 1)));
                }
            }
        }
        return all;
    }

    /** Each word of the document but its headings, the face (FaceTest has that) and what is not promised. */
    private static void everyWordIsQuoted() throws IOException {
        Check check = new Check();
        List<Quotation> all = quotations();
        for (String section : Files.readString(Path.of("../shared/DOC.md")).split("\n## ")) {
            String title = section.lines().findFirst().orElse("");
            if (title.startsWith("#") || title.equals("The public face") || title.equals("Not promised")) {
                continue;
            }
            // The head of a promise is a line of the face; signs and numbers that part the document are no words.
            String text = section.substring(title.length()).replaceFirst("^\n\n`[^`]*`: ", "").replaceAll("```\\w*|==== \\d\\.", "");
            StringBuilder left = new StringBuilder(text);
            for (Quotation q : all) {
                if (title.equals(q.where) || title.startsWith(q.where + ":")) {
                    for (int at = text.indexOf(q.words); at >= 0; at = text.indexOf(q.words, at + 1)) {
                        left.replace(at, at + q.words.length(), " ".repeat(q.words.length()));
                    }
                }
            }
            Matcher word = Pattern.compile("[A-Za-z0-9]+").matcher(left);
            check.due(title + ": all is quoted" + (word.find() ? " but " + left.toString().strip().replaceAll("\\s+", " ") : ""),
                    word.reset().find(), false);
        }
        check.close("DocumentTest, words");
    }
}
