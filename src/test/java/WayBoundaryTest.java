/** The boundary cases of who KNOWS whom and of WAYS: promises 6 to 12, with their terms. */
public final class WayBoundaryTest extends Boundary {
    private static final String[] LETTERS = "a b c d e f g h i j k l".split(" ");
    private static final long WHOLE = 1000000000000000000L;

    public static void main(String[] args) {
        blind();
        boxKnowsNobody();
        knows();
        nobodyTwice();
        fromLastToFirst();
        noWay();
        gateIsSea();
        ofLikeOnes();
        quick();
        atMostNineBetween();
        safe();
        cheap();
        behindNone();
        lies();
        apart();
        cut();
        close("WayBoundaryTest", 6, 7, 8, 9, 10, 11, 12);
    }

    /** a gives to b, b to c and so on, each step taking so much; from the first one to the last. */
    private static String chain(int people, int takes, int risk, int keeps) {
        StringBuilder all = new StringBuilder();
        for (int i = 0; i < people; i++) {
            all.append(one(LETTERS[i], 0, 0, risk, keeps));
        }
        for (int i = 1; i < people; i++) {
            all.append(gives(LETTERS[i - 1] + LETTERS[i] + takes));
        }
        return all + "from a;to " + LETTERS[people - 1] + ";";
    }

    private static int[] firstOnes(int many) {
        int[] row = new int[many];
        for (int i = 0; i < many; i++) {
            row[i] = i;
        }
        return row;
    }

    private static void blind() {
        terms("who gives to another one KNOWS him, and he KNOWS the giver, but if he is BLIND");
        for (String kind : new String[] {"", "blind", "bought"}) {
            ChalkChain x = told(kind("a", kind, 0, 0) + kind("b", kind, 0, 0) + gives("ab1"));
            due(kind + " giver", x.knows(0), 2);
            due(kind + " other", x.knows(1), kind.equals("blind") ? 0 : 1);
            tell(x, kind("a", kind, 0, 0) + kind("b", kind, 0, 0) + gives("ab1", "ba1"));
            due(kind + " who gives back", x.knows(1), 1);
        }
        ChalkChain y = told(kind("a", "blind", 0, 0) + plain("b", "c") + gives("ab1", "ca1"));
        due("a BLIND one who gives and has", y.knows(0), 2);
    }

    private static void boxKnowsNobody() {
        terms("a BOX KNOWS nobody and is KNOWN by nobody");
        ChalkChain x = told(plain("a") + box("b") + box("c") + kind("d", "blind", 0, 0) + kind("e", "bought", 0, 0)
                + gives("ab1", "ba1", "bc1", "cb1", "bd1", "db1", "be1", "eb1"));
        for (int one = 0; one < 5; one++) {
            due("knows(" + one + ")", x.knows(one), 0);
            due("one(" + one + ", 2)", x.one(one, 2), 0);
        }
    }

    private static void knows() {
        promise(6, "NONE if there is none such.");
        for (int people = 0; people <= 12; people++) {
            StringBuilder text = new StringBuilder();
            for (int i = 0; i < people; i++) {
                text.append(plain(LETTERS[i]));
            }
            ChalkChain x = told(text.toString());
            due("the last one of " + people, x.knows(people - 1), people == 0 ? NONE : 0);
            for (int one : strangers(people)) {
                due("knows(" + one + ") of " + people, x.knows(one), NONE);
            }
        }
        ChalkChain y = told(chain(12, 1, 0, 0) + gives("al1"));
        due("the first of 12", y.knows(0), 2 + 2048);
        due("the last of 12", y.knows(11), 1 + 1024);
        tell(y, plain("a"));
        due("of a CITY ahead", y.knows(1), NONE);

        promise(6, "Whom one KNOWS as told, as bits");
        ChalkChain z = told(calm("a", "b", "c") + gives("ca1", "cb1"));
        due("they meet", z.meet(0, 1, 2), true);
        z.take(2);
        due("behind a meeting", z.knows(0), 4);
        due("of one TAKEN", z.knows(2), 3);
    }

    private static void nobodyTwice() {
        terms("a row of PEOPLE from the GATE to the SEA, nobody twice, each of whom gives to the next one");
        // Rings at the GATE, at the SEA and BETWEEN, all of which keep nothing and risk nothing.
        ChalkChain x = told(plain("g", "a", "b", "s") + gives("ga1", "ab1", "ba1", "ag1", "bg1", "bs1", "sb1", "sa1") + "from g;to s;");
        due("quick", x.quick(), 3);
        dueWay("quick", x, 0, 1, 2, 3);
        due("safe", x.safe(0), 1);
        dueWay("safe", x, 0, 1, 2, 3);
        due("cheap", x.cheap(), 0);
        dueWay("cheap", x, 0, 1, 2, 3);
        due("gap", x.gap(), 0);
        due("apart", x.apart(), 1);
        due("cut", x.cut(), 2);
        tell(x, plain("g", "a", "s") + gives("ga1", "ag1", "sa1") + "from g;to s;");
        due("who gives to the giver alone", x.quick(), NONE);
    }

    private static void dueNoWay(String call, ChalkChain x) {
        due(call + ": quick", x.quick(), NONE);
        due(call + ": safe(0)", x.safe(0), NONE);
        due(call + ": safe(1)", x.safe(1), NONE);
        due(call + ": cheap", x.cheap(), NONE);
        due(call + ": apart", x.apart(), 0);
        due(call + ": cut", x.cut(), 0);
        dueWay(call, x);
    }

    /** From the last one told to the first one, over all. */
    private static void fromLastToFirst() {
        terms("a row of PEOPLE from the GATE to the SEA");
        String text = chain(11, 1, 50, 7);
        for (int i = 1; i < 11; i++) {
            text = text.replace(gives(LETTERS[i - 1] + LETTERS[i] + "1"), gives(LETTERS[i] + LETTERS[i - 1] + "2"));
        }
        ChalkChain x = told(text.replace("from a;to k;", "from k;to a;"));
        int[] down = {10, 9, 8, 7, 6, 5, 4, 3, 2, 1, 0};
        due("quick", x.quick(), 20);
        dueWay("quick", x, down);
        due("safe", x.safe(1), 512);
        dueWay("safe", x, down);
        due("cheap", x.cheap(), 63);
        dueWay("cheap", x, down);
        due("gap", x.gap(), 0);
        dueWay("gap", x, down);
        due("apart", x.apart(), 1);
        due("cut", x.cut(), 2);
        // The first one told is BETWEEN, the only one.
        ChalkChain y = told(one("a", 0, 0, 50, 7) + plain("s", "g") + gives("ga1", "as1") + "from g;to s;");
        due("over the first one: quick", y.quick(), 2);
        dueWay("over the first one: quick", y, 2, 0, 1);
        due("over the first one: safe", y.safe(1), 2);
        due("over the first one: cheap", y.cheap(), 7);
        due("over the first one: gap", y.gap(), 0);
        due("over the first one: apart", y.apart(), 1);
        due("over the first one: cut", y.cut(), 1);
    }

    private static void noWay() {
        terms("(There is none without GATE or SEA; if both are one");
        String both = plain("g", "s") + gives("gs1", "sg1");
        dueNoWay("no PEOPLE", new ChalkChain());
        dueNoWay("neither", told(both));
        dueNoWay("no SEA", told(both + "from g;"));
        dueNoWay("no GATE", told(both + "to s;"));
        due("both", told(both + "from g;to s;").quick(), 1);
        dueNoWay("both, but nobody gives", told(plain("g", "s") + "from g;to s;"));
        dueNoWay("both, but the other way", told(plain("g", "s") + gives("sg1") + "from g;to s;"));
        dueNoWay("half of it", told(plain("g", "s", "a", "b") + gives("ga1", "bs1") + "from g;to s;"));
    }

    private static void gateIsSea() {
        terms("the WAY is that one alone.)");
        String[] texts = {one("a", 9, 9, 99, 999) + "from a;to a;", box("a") + "to a;from a;",
            one("a", 9, 9, 99, 999) + plain("b") + gives("ab1", "ba1") + "from a;to a;"};
        for (String text : texts) {
            ChalkChain x = told(text);
            due("quick", x.quick(), 0);
            dueWay("quick", x, 0);
            due("safe(0)", x.safe(0), 1);
            due("safe(1)", x.safe(1), 1);
            dueWay("safe", x, 0);
            due("cheap", x.cheap(), 0);
            dueWay("cheap", x, 0);
            due("apart", x.apart(), 1);
            due("cut", x.cut(), NONE);
            due("gap", x.gap(), 0);
            dueWay("gap", x, 0);
        }
        ChalkChain last = told(plain(LETTERS) + "from l;to l;");
        due("the last of 12", last.quick(), 0);
        dueWay("the last of 12", last, 11);
    }

    private static void ofLikeOnes() {
        terms("(Of like ones the one of fewest PEOPLE, then the first, by their numbers, the first counts most.)");
        // Two steps of 1 and one of 2 are alike, and the longer one has the lower numbers.
        ChalkChain x = told(plain("a", "b", "g", "s", "c") + gives("ga1", "ab1", "bs2", "gc2", "cs2") + "from g;to s;");
        due("fewest PEOPLE: quick", x.quick(), 4);
        dueWay("fewest PEOPLE: quick", x, 2, 4, 3);
        due("fewest PEOPLE: safe", x.safe(0), 1);
        dueWay("fewest PEOPLE: safe", x, 2, 4, 3);
        due("fewest PEOPLE: cheap", x.cheap(), 0);
        dueWay("fewest PEOPLE: cheap", x, 2, 4, 3);
        due("fewest PEOPLE: gap", x.gap(), 0);
        dueWay("fewest PEOPLE: gap", x, 2, 4, 3);
        // 0 and 3 go ahead of 1 and 2: the first that is unlike counts, not the least at the end.
        ChalkChain y = told(plain("a", "b", "c", "d", "g", "s") + gives("gb1", "bc1", "cs1", "ga1", "ad1", "ds1") + "from g;to s;");
        due("the first: quick", y.quick(), 3);
        dueWay("the first: quick", y, 4, 0, 3, 5);
        due("the first: safe", y.safe(1), 1);
        dueWay("the first: safe", y, 4, 0, 3, 5);
        due("the first: cheap", y.cheap(), 0);
        dueWay("the first: cheap", y, 4, 0, 3, 5);
        due("the first: gap", y.gap(), 0);
        dueWay("the first: gap", y, 4, 0, 3, 5);
        // Alike up to the second BETWEEN.
        ChalkChain z = told(plain("g", "s", "a", "b", "c") + gives("ga1", "ac1", "cs1", "ab1", "bs1") + "from g;to s;");
        z.quick();
        dueWay("the first at the second place", z, 0, 2, 3, 1);
        // What is told first does not count, but its number.
        ChalkChain w = told(plain("g", "s", "a", "b") + gives("gb1", "bs1", "ga1", "as1") + "from g;to s;");
        w.quick();
        dueWay("by their numbers", w, 0, 2, 1);
    }

    private static void quick() {
        promise(7, "the DAYS it takes; NONE if there is none.");
        ChalkChain x = told(chain(12, 9, 0, 0));
        due("the longest", x.quick(), 99);
        dueWay("the longest", x, firstOnes(12));
        due("the shortest", told(chain(2, 1, 0, 0)).quick(), 1);
        ChalkChain y = told(chain(12, 9, 0, 0) + gives("al9"));
        due("the shortest of two", y.quick(), 9);
        dueWay("the shortest of two", y, 0, 11);
        due("none", told(plain("a", "b") + "from a;to b;").quick(), NONE);
        x.take(5);
        x.day(50);
        due("as told, whoever is TAKEN", x.quick(), 99);
    }

    private static void atMostNineBetween() {
        terms("SAFE: that of at most 9 BETWEEN whose odds are greatest");
        for (int people = 2; people <= 12; people++) {
            ChalkChain x = told(chain(people, 1, 0, 0));
            due(people - 2 + " BETWEEN: quick", x.quick(), people - 1);
            due(people - 2 + " BETWEEN: safe(0)", x.safe(0), people < 12 ? 1 : NONE);
            due(people - 2 + " BETWEEN: WAY", x.about(9), people < 12 ? people : 0);
            due(people - 2 + " BETWEEN: safe(1)", x.safe(1), people < 12 ? 1 : NONE);
        }
        // Ten BETWEEN without any risk; a shortcut past the first one leaves nine, one of them at risk.
        StringBuilder text = new StringBuilder(chain(12, 1, 0, 0).replace("one c slow 0 holds 0 risk 0", "one c slow 0 holds 0 risk 99"));
        ChalkChain y = told(text + gives("ac1"));
        due("nine for ten: quick", y.quick(), 10);
        due("nine for ten: safe(0)", y.safe(0), 1);
        due("nine for ten: safe(1)", y.safe(1), 100);
        dueWay("nine for ten", y, 0, 2, 3, 4, 5, 6, 7, 8, 9, 10, 11);
        // A shortcut over one at risk 99 alone: though of one BETWEEN, it is the safest that may be.
        ChalkChain z = told(chain(12, 1, 0, 0).replace("one f slow 0 holds 0 risk 0", "one f slow 0 holds 0 risk 99") + gives("af1", "fl1"));
        due("one for ten: safe(1)", z.safe(1), 100);
        dueWay("one for ten", z, 0, 5, 11);
    }

    private static long power(long base, int times) {
        long product = 1;
        for (int i = 0; i < times; i++) {
            product *= base;
        }
        return product;
    }

    private static void safe() {
        promise(8, "its odds, upper part (0), lower part (1), in lowest terms");
        for (int between = 0; between <= 9; between++) {
            ChalkChain x = told(chain(between + 2, 1, 1, 0));
            due("risk 1, " + between + " BETWEEN: upper", x.safe(0), power(99, between));
            due("risk 1, " + between + " BETWEEN: lower", x.safe(1), power(100, between));
            ChalkChain y = told(chain(between + 2, 1, 99, 0));
            due("risk 99, " + between + " BETWEEN: upper", y.safe(0), 1);
            due("risk 99, " + between + " BETWEEN: lower", y.safe(1), power(100, between));
            ChalkChain z = told(chain(between + 2, 1, 0, 0));
            due("no risk, " + between + " BETWEEN: upper", z.safe(0), 1);
            due("no risk, " + between + " BETWEEN: lower", z.safe(1), 1);
            ChalkChain half = told(chain(between + 2, 1, 50, 0));
            due("risk 50, " + between + " BETWEEN: upper", half.safe(0), 1);
            due("risk 50, " + between + " BETWEEN: lower", half.safe(1), power(2, between));
        }
        due("nine of risk 99", told(chain(11, 1, 99, 0)).safe(1), WHOLE);
        due("nine of risk 3", told(chain(11, 1, 3, 0)).safe(0), power(97, 9));
        // Nine of risk 1 (a bit above nine tenths) against one of risk 9 and one of risk 8.
        String nine = chain(11, 1, 1, 0);
        ChalkChain near = told(nine + one("l", 0, 0, 9, 0) + gives("al1", "lk1"));
        due("by a hair", near.safe(0), power(99, 9));
        dueWay("by a hair", near, firstOnes(11));
        ChalkChain far = told(nine + one("l", 0, 0, 8, 0) + gives("al1", "lk1"));
        due("the other way", far.safe(0), 23);
        due("the other way", far.safe(1), 25);
        dueWay("the other way", far, 0, 11, 10);

        promise(8, "NONE likewise, or for another part.");
        due("none: upper", told(plain("a", "b") + "from a;to b;").safe(0), NONE);
        due("none: lower", told(plain("a", "b") + "from a;to b;").safe(1), NONE);
        for (int part : wrong(2, 3, 32, 256)) {
            due("safe(" + part + ")", near.safe(part), NONE);
            due("safe(" + part + ") of none", new ChalkChain().safe(part), NONE);
        }
    }

    private static void cheap() {
        promise(9, "CHEAP: keeps, together; NONE likewise.");
        due("the dearest", told(chain(12, 1, 0, 999)).cheap(), 9990);
        due("one BETWEEN", told(chain(3, 1, 0, 999)).cheap(), 999);
        due("GATE and SEA keep for nothing", told(chain(2, 1, 0, 999)).cheap(), 0);
        ChalkChain x = told(chain(12, 1, 0, 0).replace("one d slow 0 holds 0 risk 0 keeps 0", "one d slow 0 holds 0 risk 0 keeps 1")
                + gives("ad1", "dl1"));
        due("fewest PEOPLE of those that keep 1", x.cheap(), 1);
        dueWay("fewest PEOPLE of those that keep 1", x, 0, 3, 11);
        ChalkChain y = told(chain(12, 1, 0, 0) + gives("al9"));
        due("fewest PEOPLE of those that keep nothing", y.cheap(), 0);
        dueWay("fewest PEOPLE of those that keep nothing", y, 0, 11);
        ChalkChain z = told(one("g", 0, 0, 0, 0) + one("s", 0, 0, 0, 0) + one("a", 0, 0, 0, 2) + one("b", 0, 0, 0, 1)
                + one("c", 0, 0, 0, 0) + gives("ga1", "as1", "gb1", "bc1", "cs1") + "from g;to s;");
        due("more PEOPLE for less", z.cheap(), 1);
        dueWay("more PEOPLE for less", z, 0, 3, 4, 1);
        due("none", told(plain("a", "b") + "from a;to b;").cheap(), NONE);
    }

    /** No WAY as told, but one acquaintance makes one: gap() can lay it there. */
    private static ChalkChain withGap() {
        ChalkChain x = told(calm("g", "s", "a") + gives("ag1", "as1") + "from g;to s;");
        x.gap();
        due("gap() lays a WAY", x.about(9), 2);
        return x;
    }

    private static void behindNone() {
        promise(7, "The WAY lies there then (behind NONE: none).");
        ChalkChain x = withGap();
        due("quick()", x.quick(), NONE);
        dueWay("quick()", x);
        promise(8, "The WAY lies there then (behind NONE: none).");
        for (int part = 0; part < 3; part++) {
            ChalkChain y = withGap();
            due("safe(" + part + ")", y.safe(part), NONE);
            dueWay("safe(" + part + ")", y);
        }
        ChalkChain z = told(chain(12, 1, 0, 0));
        z.quick();
        due("safe(0) of ten BETWEEN", z.safe(0), NONE);
        dueWay("safe(0) of ten BETWEEN", z);
        for (int part : wrong(2)) {
            ChalkChain y = told(chain(3, 1, 0, 0));
            y.quick();
            due("safe(" + part + ")", y.safe(part), NONE);
            dueWay("safe(" + part + ")", y);
        }
        promise(9, "The WAY lies there then (behind NONE: none).");
        ChalkChain w = withGap();
        due("cheap()", w.cheap(), NONE);
        dueWay("cheap()", w);
    }

    private static void lies() {
        promise(10, "(0: the GATE); NONE if it has not so many.");
        ChalkChain x = new ChalkChain();
        for (int i : wrong(0, 1, 11, 12, 13)) {
            due("lies(" + i + ") of none", x.lies(i), NONE);
        }
        for (int people = 2; people <= 12; people++) {
            ChalkChain y = told(chain(people, 1, 0, 0));
            due("ahead of any WAY", y.lies(0), NONE);
            y.quick();
            dueWay("a WAY of " + people, y, firstOnes(people));
            for (int i : wrong(people, people + 1, 12, 13, 32)) {
                due("lies(" + i + ") of " + people, y.lies(i), NONE);
            }
        }
        ChalkChain z = told(chain(12, 1, 0, 0) + gives("al9"));
        z.quick();
        z.cheap();
        dueWay("a short WAY behind a long one", z, 0, 11);
        tell(z, chain(3, 1, 0, 0));
        due("behind city()", z.lies(0), NONE);
    }

    private static void apart() {
        terms("APART: the greatest number of WAYS no two of which share one BETWEEN (a WAY without any once).");
        StringBuilder fan = new StringBuilder(plain(LETTERS));
        for (int i = 1; i < 11; i++) {
            due(i - 1 + " side by side", told(fan + "from a;to l;").apart(), i - 1);
            fan.append(gives("a" + LETTERS[i] + "1", LETTERS[i] + "l1"));
        }
        due("10 side by side", told(fan + "from a;to l;").apart(), 10);
        due("10 side by side and one without any", told(fan + gives("al1") + "from a;to l;").apart(), 11);
        due("one without any", told(plain("g", "s") + gives("gs1") + "from g;to s;").apart(), 1);
        due("all by one", told(chain(12, 1, 0, 0)).apart(), 1);
        due("by one and without any", told(chain(12, 1, 0, 0) + gives("al1")).apart(), 2);
        due("over BOXES", told(plain("g", "s") + box("a") + box("b") + gives("ga1", "as1", "gb1", "bs1") + "from g;to s;").apart(), 2);
        due("a ring back to the GATE is no other WAY", told(plain("g", "s", "a", "b") + gives("gs1", "ga1", "ab1", "bg1", "ag1")
                + "from g;to s;").apart(), 1);
        // To go the shortest WAY g-a-d-s bars both others; two go apart all the same.
        due("not the shortest first", told(plain("g", "s", "a", "b", "c", "d")
                + gives("ga1", "ad1", "ds1", "ab1", "bs1", "gc1", "cd1") + "from g;to s;").apart(), 2);

        promise(11, "APART (0 without WAYS).");
        due("an empty CITY", new ChalkChain().apart(), 0);
        due("no SEA", told(plain("g", "s") + gives("gs1") + "from g;").apart(), 0);
        due("no GATE", told(plain("g", "s") + gives("gs1") + "to s;").apart(), 0);
        due("nobody gives", told(plain("g", "s", "a") + gives("ga1") + "from g;to s;").apart(), 0);
    }

    private static void cut() {
        terms("CUT: the fewest PEOPLE (no BOX, GATE, SEA) without whom there is no WAY; of like ones the least set (as bits).");
        StringBuilder fan = new StringBuilder(plain(LETTERS));
        for (int i = 1; i < 11; i++) {
            fan.append(gives("a" + LETTERS[i] + "1", LETTERS[i] + "l1"));
            due("all of " + i, told(fan + "from a;to l;").cut(), (1 << i + 1) - 2);
        }
        due("the least of ten in a row", told(chain(12, 1, 0, 0)).cut(), 2);
        due("the last alone", told(plain("g", "s", "a", "b", "c", "d") + gives("ga1", "gb1", "gc1", "ad1", "bd1", "cd1", "ds1")
                + "from g;to s;").cut(), 32);
        // One of a and d with one of b and c: of as many PEOPLE the least bits.
        due("the least bits", told(plain("g", "s", "a", "b", "c", "d") + gives("ga1", "ad1", "ds1", "gb1", "bc1", "cs1")
                + "from g;to s;").cut(), 4 + 8);
        due("one BOX of a row", told(plain("g", "s") + box("a") + plain("b") + gives("ga1", "ab1", "bs1") + "from g;to s;").cut(), 8);

        promise(12, "NONE if there is none; 0 without WAYS.");
        due("without BETWEEN", told(chain(2, 1, 0, 0)).cut(), NONE);
        due("without BETWEEN beside others", told(chain(4, 1, 0, 0) + gives("ad1")).cut(), NONE);
        due("BOXES alone", told(plain("g", "s") + box("a") + box("b") + gives("ga1", "ab1", "bs1") + "from g;to s;").cut(), NONE);
        due("BOXES beside others", told(plain("g", "s") + box("a") + plain("b") + gives("ga1", "as1", "gb1", "bs1")
                + "from g;to s;").cut(), NONE);
        due("an empty CITY", new ChalkChain().cut(), 0);
        due("no SEA", told(plain("g", "s") + gives("gs1") + "from g;").cut(), 0);
        due("no GATE", told(plain("g", "s") + gives("gs1") + "to s;").cut(), 0);
        due("nobody gives", told(plain("g", "s", "a") + gives("ga1") + "from g;to s;").cut(), 0);
    }
}
