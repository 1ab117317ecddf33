/** Each promise by hand: ordinary calls, the edges that the document names, wrong inputs. */
public final class PromiseTest extends Lines {
    private static final Check CHECK = new Check();
    private static final int[] WRONG = {-1, Integer.MIN_VALUE, Integer.MAX_VALUE, -2, 1000000};

    public static void main(String[] args) {
        newObject();
        feed();
        end();
        city();
        cityAnew();
        cityLimits();
        fault();
        faultPlaces();
        tokens();
        knows();
        quick();
        waysAlike();
        safe();
        safeLong();
        cheap();
        lies();
        apart();
        cut();
        fall();
        fallInOrder();
        worst();
        send();
        sendToOneself();
        dayAndThing();
        nextAnew();
        day();
        take();
        meet();
        one();
        thing();
        gap();
        late();
        taken();
        untell();
        later();
        spies();
        origins();
        image();
        back();
        about();
        CHECK.close("PromiseTest");
    }

    private static void due(String call, long got, long want) {
        CHECK.due(call, got, want);
    }

    private static void due(String call, boolean got, boolean want) {
        CHECK.due(call, got, want);
    }

    private static ChalkChain told(String text) {
        ChalkChain x = new ChalkChain();
        Check.tell(x, text);
        due("fault(0) of " + text, x.fault(0), 0);
        return x;
    }

    private static void dueWay(String call, ChalkChain x, int... way) {
        due(call + ": about(9)", x.about(9), way.length);
        for (int i = 0; i < way.length; i++) {
            due(call + ": lies(" + i + ")", x.lies(i), way[i]);
        }
        due(call + ": lies behind its end", x.lies(way.length), NONE);
    }

    private static void newObject() {
        ChalkChain x = new ChalkChain();
        int[] about = {0, 0, NONE, NONE, 0, 0, 0, 0, 0, 0, 0, 0};
        for (int what = 0; what < about.length; what++) {
            due("new: about(" + what + ")", x.about(what), about[what]);
        }
        due("new: fault(0)", x.fault(0), 0);
        due("new: fault(1)", x.fault(1), NONE);
        due("new: knows(0)", x.knows(0), NONE);
        due("new: quick()", x.quick(), NONE);
        due("new: safe(0)", x.safe(0), NONE);
        due("new: cheap()", x.cheap(), NONE);
        due("new: lies(0)", x.lies(0), NONE);
        due("new: apart()", x.apart(), 0);
        due("new: cut()", x.cut(), 0);
        due("new: fall(0, 0, 0)", x.fall(0, 0, 0), -2);
        due("new: worst(1)", x.worst(1), NONE);
        due("new: send()", x.send(), NONE);
        due("new: take(0)", x.take(0), NONE);
        due("new: meet(0, 0, 0)", x.meet(0, 0, 0), false);
        due("new: one(0, 0)", x.one(0, 0), NONE);
        due("new: thing(0, 0)", x.thing(0, 0), -4);
        due("new: gap()", x.gap(), NONE);
        due("new: late(1, 0)", x.late(1, 0), NONE);
        due("new: late(-1, 0)", x.late(-1, 0), NONE);
        due("new: late(0, 100)", x.late(0, 100), NONE);
        due("new: taken(0, 0)", x.taken(0, 0), NONE);
        due("new: untell(0)", x.untell(0), false);
        due("new: spies(0, 0)", x.spies(0, 0), 1);
        due("new: spies(2, 0)", x.spies(2, 0), 0);
        due("new: origins(2, 0)", x.origins(2, 0), NONE);
        due("new: back(0)", x.back(0), NONE);
        due("new: image(0)", x.image(0), 0);
        due("new: back(0) then", x.back(0), 0);
    }

    private static void feed() {
        ChalkChain x = new ChalkChain();
        for (int i = 1; i <= 80; i++) {
            due("feed " + i, x.feed(0x20202020, 0x0A0A0A0A, 0x20202020, 0x20202020, 0x20202020), 20 * i);
        }
        due("feed beyond 1,600", x.feed(0, 0, 0, 0, 0), NONE);
        due("feed beyond 1,600: bytes", x.about(8), 1600);
        due("end 1,581", x.end(1581), 1581);
        due("feed beyond 1,600 from 1,581", x.feed(0, 0, 0, 0, 0), NONE);
        due("end 1,580", x.end(1580), 1580);
        due("feed up to 1,600", x.feed(0x20202020, 0x20202020, 0x20202020, 0x20202020, 0x6C75636B), 1600);
        due("feed: city", x.city(), NONE);
        due("feed: the highest byte comes first", x.fault(1), 1600);
        due("feed: the highest byte comes first", x.fault(0), 2);
        due("feed: a byte above 127", x.feed(0xFF202020, 0, 0, 0, 0), 20);
        due("feed: a byte above 127", x.city(), NONE);
        due("feed: a byte above 127", x.fault(0), 1);
    }

    private static void end() {
        ChalkChain x = new ChalkChain();
        due("end(1) of none", x.end(1), NONE);
        due("end(0) of none", x.end(0), 0);
        x.feed(1, 2, 3, 4, 5);
        due("end(21) of 20", x.end(21), NONE);
        for (int wrong : WRONG) {
            due("end(" + wrong + ")", x.end(wrong), NONE);
        }
        due("end: bytes stay", x.about(8), 20);
        due("end(20)", x.end(20), 20);
        due("end(7)", x.end(7), 7);
        due("end(7): bytes", x.about(8), 7);
        due("end(8) of 7", x.end(8), NONE);
    }

    private static void city() {
        ChalkChain x = told(plain("a", "b") + gives("ab3") + "from a;to b;luck 2;");
        x.later(5);
        x.quick();
        x.send();
        x.day(1);
        x.take(1);
        x.late(1, 1);
        x.image(1);
        due("city with a FAULT", Check.tell(x, "one a slow 0 holds 0 risk 0 keeps 0;one"), NONE);
        due("city with a FAULT: the TAPE is empty", x.about(8), 0);
        int[] stays = {2, 1, 0, 1, 1, 1, 1, 5, 0, 2, 0, 0};
        for (int what = 0; what < stays.length; what++) {
            due("city with a FAULT: about(" + what + ") stays", x.about(what), stays[what]);
        }
        due("city with a FAULT: one(1, 0) stays", x.one(1, 0), 1);
        due("city with a FAULT: the image stays", x.back(1), 1);
        due("city", Check.tell(x, plain("c", "d", "e")), 3);
        int[] fresh = {3, 0, NONE, NONE, 0, 0, 0, 5, 0, 0, 0, 0};
        for (int what = 0; what < fresh.length; what++) {
            due("city: about(" + what + ")", x.about(what), fresh[what]);
        }
        due("city: nobody is TAKEN", x.one(1, 0), 0);
        due("city: images are none", x.back(1), NONE);
        due("city: no WAY lies there", x.lies(0), NONE);
        due("city: fault(0)", x.fault(0), 0);
        due("city: fault(1)", x.fault(1), NONE);
        ChalkChain met = told(plain("a", "b", "c") + gives("ca1", "cb1"));
        due("city: meet", met.meet(0, 1, 2), true);
        Check.tell(met, plain("a", "b", "c") + gives("ca1", "cb1"));
        due("city: who met is forgotten", met.one(0, 2), 4);
        due("city: meet again", met.meet(0, 1, 2), true);
        due("city: an empty text", x.city(), 0);
    }

    /** Nothing of an earlier CITY, or of a text with a FAULT, is left in a later one. */
    private static void cityAnew() {
        ChalkChain x = new ChalkChain();
        String full = "one a box slow 9 holds 9 risk 9 keeps 9;one b bought slow 9 holds 9 risk 9 keeps 9;"
                + one("c", 9, 0, 9, 9) + gives("ab1", "bc1", "ca1", "cb1") + "from a;to c;luck 9;";
        String bare = one("a", 0, 5, 0, 0) + one("b", 0, 5, 0, 0) + one("c", 0, 5, 0, 0);
        String[] texts = {full, full, full + "?", bare, bare};
        for (String text : texts) {
            Check.tell(x, text);
        }
        due("anew: gives lines", x.about(1), 0);
        due("anew: GATE", x.about(2), NONE);
        due("anew: SEA", x.about(3), NONE);
        x.late(7, 1);
        due("anew: luck", x.spies(0, 0), 3);
        due("anew: BOX", x.taken(0, 3), 1);
        due("anew: knows", x.knows(1), 0);
        due("anew: apart", x.apart(), 0);
        Check.tell(x, full);
        Check.tell(x, bare + gives("ab1", "bc1"));
        due("anew: FALL", x.fall(1, 0, 1), 1);
        due("anew: tells at once", x.take(2), 1);
        x.day(1);
        due("anew: is GONE", x.one(1, 0), 2);
    }

    private static void cityLimits() {
        String[] twelve = {"a", "b", "c", "d", "e", "f", "g", "h", "i", "j", "k", "l"};
        String all = plain(twelve);
        ChalkChain x = told(all);
        due("city of 12", x.about(0), 12);
        due("city of 13", Check.tell(x, all + "one m"), NONE);
        due("city of 13: fault", x.fault(0), 2);
        due("city of 13: place", x.fault(1), all.length());
        StringBuilder lines = new StringBuilder(all);
        int many = 0;
        for (int i = 0; i < 12 && many < 30; i++) {
            for (int j = 0; j < 12 && many < 30; j++) {
                if (i != j) {
                    lines.append(gives(twelve[i] + twelve[j] + "9"));
                    many++;
                }
            }
        }
        due("city of 30 gives lines", Check.tell(x, lines.toString()), 12);
        due("city of 30 gives lines: about(1)", x.about(1), 30);
        due("city of 31 gives lines", Check.tell(x, lines + gives("la1")), NONE);
        due("city of 31 gives lines: fault", x.fault(0), 2);
        due("city of 31 gives lines: place", x.fault(1), lines.length());
        String blanks = lines + " ".repeat(1600 - lines.length());
        due("city of 1,600 bytes", Check.tell(x, blanks), 12);
        String most = "one abcdefgh slow 9 holds 9 risk 99 keeps 999;luck 9;";
        due("city: the greatest numbers", Check.tell(x, most), 1);
        due("city: the least numbers", Check.tell(x, plain("a", "b") + gives("ab1") + "luck 0;"), 2);
    }

    private static void dueFault(String text, int fault, int place) {
        ChalkChain x = new ChalkChain();
        due("city of " + text, Check.tell(x, text), NONE);
        due("fault(0) of " + text, x.fault(0), fault);
        due("fault(1) of " + text, x.fault(1), place);
    }

    private static void fault() {
        ChalkChain x = new ChalkChain();
        Check.tell(x, "one a ?");
        for (int wrong : WRONG) {
            due("fault(" + wrong + ")", x.fault(wrong), NONE);
        }
        due("fault(2)", x.fault(2), NONE);
        due("fault(0)", x.fault(0), 1);
        due("fault(1)", x.fault(1), 6);
        Check.tell(x, "luck 1;");
        due("fault(0) of a sound one", x.fault(0), 0);
        due("fault(1) of a sound one", x.fault(1), NONE);
    }

    private static void faultPlaces() {
        dueFault("?", 1, 0);
        dueFault(";", 2, 0);
        dueFault("7", 2, 0);
        dueFault("a", 2, 0);
        dueFault("slow", 2, 0);
        dueFault("one", 2, 3);
        dueFault("one  \n ", 2, 7);
        dueFault("one 1", 2, 4);
        dueFault("one ;", 2, 4);
        dueFault("from ;", 2, 5);
        dueFault("luck ;", 2, 5);
        dueFault("one blind", 2, 4);
        dueFault("one a a", 2, 6);
        dueFault("one a blind box", 2, 12);
        dueFault("one a slow", 2, 10);
        dueFault("one a slow x", 2, 11);
        dueFault("one a slow 10", 4, 11);
        dueFault("one a slow 0 slow", 2, 13);
        dueFault("one a slow 0 holds 10", 4, 19);
        dueFault("one a slow 0 holds 0 risk 100", 4, 26);
        dueFault("one a slow 0 holds 0 risk 0 keeps 1000", 4, 34);
        dueFault("one a slow 0 holds 0 risk 0 keeps 0", 2, 35);
        dueFault("one a slow 0 holds 0 risk 0 keeps 0 one", 2, 36);
        dueFault("luck 10;?", 4, 5);
        dueFault("luck 1 1", 2, 7);
        dueFault("luck 1;luck", 2, 7);
        dueFault("luck 1;;", 2, 7);
        dueFault("from", 2, 4);
        dueFault("from a;", 5, 5);
        dueFault("to box;", 2, 3);
        dueFault("gives a", 5, 6);
        String two = plain("a", "b");
        int at = two.length();
        dueFault(two + "one a", 3, at + 4);
        dueFault(two + "gives a a", 3, at + 8);
        dueFault(two + "gives a c", 5, at + 8);
        dueFault(two + "gives c c", 5, at + 6);
        dueFault(two + "gives a one", 2, at + 8);
        dueFault(two + "gives a b takes 0", 4, at + 16);
        dueFault(two + "gives a b takes 10", 4, at + 16);
        dueFault(two + "gives a b takes 1;gives a b", 3, at + 26);
        dueFault(two + "from a;from b", 2, at + 7);
        dueFault(two + "to a;to b", 2, at + 5);
        due("gives both ways", Check.tell(new ChalkChain(), two + gives("ab1", "ba1")), 2);
        due("one is GATE and SEA", Check.tell(new ChalkChain(), two + "from a;to a;"), 2);
    }

    private static void tokens() {
        due("TOKENS without blanks", Check.tell(new ChalkChain(), "one a slow0 holds0 risk0 keeps0;from a;to a;luck3;"), 1);
        due("TOKENS parted by 10", Check.tell(new ChalkChain(), "one\na\nslow\n0\nholds\n0\nrisk\n0\nkeeps\n0\n;\n"), 1);
        due("a word of eight", Check.tell(new ChalkChain(), "one abcdefgh slow 0 holds 0 risk 0 keeps 0;"), 1);
        due("plain is a NAME", Check.tell(new ChalkChain(), "one plain slow 0 holds 0 risk 0 keeps 0;from plain;"), 1);
        due("zeros ahead", Check.tell(new ChalkChain(), "luck 0009;"), 0);
        dueFault("one abcdefghi slow 0", 1, 4);
        dueFault("luck 00009;", 1, 5);
        dueFault("luck 9x;", 1, 5);
        dueFault("luck 99x;", 1, 5);
        dueFault("luck\t9;", 1, 4);
        dueFault("luck 9\r;", 1, 6);
        dueFault("Luck 9;", 1, 0);
        dueFault("onea slow 0", 2, 0);
        dueFault("one a1", 2, 5);
        String[] own = {"one", "blind", "bought", "box", "slow", "holds", "risk", "keeps", "gives", "takes", "from",
            "to", "luck"};
        for (String word : own) {
            dueFault("from " + word, 2, 5);
        }
    }

    private static void knows() {
        // a plain, b blind, c bought, d box; each gives to the next one and d to a.
        ChalkChain x = told("one a slow 0 holds 0 risk 0 keeps 0;one b blind slow 0 holds 0 risk 0 keeps 0;"
                + "one c bought slow 0 holds 0 risk 0 keeps 0;one d box slow 0 holds 0 risk 0 keeps 0;"
                + gives("ab1", "bc1", "cd1", "da1"));
        due("knows(0)", x.knows(0), 2);
        due("knows(1)", x.knows(1), 4);
        due("knows(2)", x.knows(2), 2);
        due("knows(3)", x.knows(3), 0);
        due("knows(4)", x.knows(4), NONE);
        for (int wrong : WRONG) {
            due("knows(" + wrong + ")", x.knows(wrong), NONE);
        }
        ChalkChain y = told(plain("a", "b", "c") + gives("ca1", "cb1"));
        y.meet(0, 1, 2);
        due("knows is as told", y.knows(0), 4);
    }

    private static void quick() {
        ChalkChain x = told(plain("g", "a", "b", "s") + gives("ga5", "as5", "gb4", "ba1", "bs6") + "from g;to s;");
        due("quick", x.quick(), 10);
        dueWay("quick: fewest PEOPLE, then the first", x, 0, 1, 3);
        x.take(1);
        due("quick is as told", x.quick(), 10);
        due("quick without a SEA", Check.tell(x, plain("g", "s") + gives("gs1") + "from g;"), 2);
        due("quick without a SEA", x.quick(), NONE);
        due("quick without a GATE", Check.tell(x, plain("g", "s") + gives("gs1") + "to s;"), 2);
        due("quick without a GATE", x.quick(), NONE);
        due("quick without gives", Check.tell(x, plain("g", "s") + gives("sg1") + "from g;to s;"), 2);
        due("quick without gives", x.quick(), NONE);
        dueWay("quick without gives", x);
        Check.tell(x, plain("g", "s") + gives("sg1", "gs1") + "from g;to g;");
        due("quick if both are one", x.quick(), 0);
        dueWay("quick if both are one", x, 0);
        Check.tell(x, plain("g", "s") + gives("gs9") + "from g;to s;");
        due("quick of two", x.quick(), 9);
        dueWay("quick of two", x, 0, 1);
    }

    private static void waysAlike() {
        // All three WAYS take 4; that over c and a has most PEOPLE, and a is told ahead of b.
        ChalkChain x = told(plain("g", "s", "a", "b", "c") + gives("gc1", "ca1", "as2", "gb2", "bs2", "ga2") + "from g;to s;");
        due("alike", x.quick(), 4);
        dueWay("alike", x, 0, 2, 1);
        // The first of the row counts most: 2, 5 is ahead of 3, 4.
        ChalkChain y = told(plain("g", "s", "a", "b", "c", "d") + gives("gb1", "bc1", "cs1", "ga1", "ad1", "ds1") + "from g;to s;");
        due("the first counts most", y.quick(), 3);
        dueWay("the first counts most", y, 0, 2, 5, 1);
        // A WAY that counts less though it has more PEOPLE.
        ChalkChain z = told(plain("g", "s", "a", "b") + gives("gs9", "ga1", "ab1", "bs1") + "from g;to s;");
        due("less though longer", z.quick(), 3);
        dueWay("less though longer", z, 0, 2, 3, 1);
    }

    private static void safe() {
        ChalkChain x = told(one("g", 0, 0, 99, 0) + one("s", 0, 0, 99, 0) + one("a", 0, 0, 50, 0)
                + one("b", 0, 0, 20, 0) + one("c", 0, 0, 25, 0) + gives("ga1", "as1", "gb9", "bc9", "cs9") + "from g;to s;");
        due("safe(0)", x.safe(0), 3);
        dueWay("safe(0)", x, 0, 3, 4, 1);
        due("safe(1)", x.safe(1), 5);
        for (int wrong : WRONG) {
            x.quick();
            due("safe(" + wrong + ")", x.safe(wrong), NONE);
            due("safe(" + wrong + "): no WAY lies there", x.about(9), 0);
        }
        due("safe(2)", x.safe(2), NONE);
        Check.tell(x, one("g", 0, 0, 99, 0) + one("s", 0, 0, 99, 0) + gives("gs1") + "from g;to s;");
        due("safe without BETWEEN, upper", x.safe(0), 1);
        due("safe without BETWEEN, lower", x.safe(1), 1);
        dueWay("safe without BETWEEN", x, 0, 1);
        Check.tell(x, one("g", 0, 0, 99, 0) + "from g;to g;");
        due("safe if both are one", x.safe(1), 1);
        dueWay("safe if both are one", x, 0);
        Check.tell(x, plain("g", "s") + "from g;to s;");
        due("safe without WAYS", x.safe(0), NONE);
        // (80 * 50) / 10000 is like 40 / 100: the one of fewest PEOPLE counts.
        Check.tell(x, plain("g", "s") + one("a", 0, 0, 20, 0) + one("b", 0, 0, 50, 0) + one("c", 0, 0, 60, 0)
                + gives("ga1", "ab1", "bs1", "gc1", "cs1") + "from g;to s;");
        due("safe alike, upper", x.safe(0), 2);
        dueWay("safe alike", x, 0, 4, 1);
        due("safe alike, lower", x.safe(1), 5);
    }

    /** A chain with nine BETWEEN, whose odds need every digit of a long, and one with ten. */
    private static void safeLong() {
        String[] names = {"g", "a", "b", "c", "d", "e", "f", "h", "i", "j", "k", "s"};
        for (int between = 9; between <= 10; between++) {
            StringBuilder all = new StringBuilder();
            for (int i = 0; i <= between; i++) {
                all.append(one(names[i], 0, 0, 1, 0));
            }
            all.append(one("s", 0, 0, 0, 0));
            for (int i = 0; i < between; i++) {
                all.append(gives(names[i] + names[i + 1] + "1"));
            }
            all.append(gives(names[between] + "s1")).append("from g;to s;");
            ChalkChain x = told(all.toString());
            due("safe(0) of " + between, x.safe(0), between == 9 ? 913517247483640899L : NONE);
            due("safe(0) of " + between + ": WAY", x.about(9), between == 9 ? 11 : 0);
            due("safe(1) of " + between, x.safe(1), between == 9 ? 1000000000000000000L : NONE);
            due("quick of " + between, x.quick(), between + 1);
            due("quick of " + between + ": WAY", x.about(9), between + 2);
        }
    }

    private static void cheap() {
        ChalkChain x = told(one("g", 0, 0, 0, 999) + one("s", 0, 0, 0, 999) + one("a", 0, 0, 0, 10) + one("b", 0, 0, 0, 4)
                + one("c", 0, 0, 0, 5) + gives("ga1", "as1", "gb9", "bc9", "cs9") + "from g;to s;");
        due("cheap", x.cheap(), 9);
        dueWay("cheap", x, 0, 3, 4, 1);
        Check.tell(x, one("g", 0, 0, 0, 999) + "from g;to g;");
        due("cheap if both are one", x.cheap(), 0);
        dueWay("cheap if both are one", x, 0);
        Check.tell(x, plain("g", "s") + "from g;to s;");
        due("cheap without WAYS", x.cheap(), NONE);
        dueWay("cheap without WAYS", x);
        // All keep nothing: the one of fewest PEOPLE counts, though it takes longer.
        Check.tell(x, plain("g", "a", "s") + gives("ga1", "as1", "gs9") + "from g;to s;");
        due("cheap alike", x.cheap(), 0);
        dueWay("cheap alike", x, 0, 2);
    }

    private static void lies() {
        ChalkChain x = told(plain("s", "a", "g") + gives("ga1", "as1") + "from g;to s;");
        due("lies(0) at first", x.lies(0), NONE);
        x.quick();
        due("lies(0)", x.lies(0), 2);
        due("lies(1)", x.lies(1), 1);
        due("lies(2)", x.lies(2), 0);
        due("lies(3)", x.lies(3), NONE);
        for (int wrong : WRONG) {
            due("lies(" + wrong + ")", x.lies(wrong), NONE);
        }
        x.day(3);
        x.apart();
        x.cut();
        due("lies stays", x.lies(0), 2);
    }

    private static void apart() {
        ChalkChain x = told(plain("g", "s", "a", "b", "c")
                + gives("gs1", "ga1", "as1", "gb1", "bs1", "gc1", "ca1", "cb1") + "from g;to s;");
        due("apart", x.apart(), 3);
        // The shortest WAY g-a-b-s crosses both others: g-a-d-s and g-c-b-s.
        Check.tell(x, plain("g", "s", "a", "b", "c", "d") + gives("ga1", "ab1", "bs1", "gc1", "cb1", "ad1", "ds1")
                + "from g;to s;");
        due("apart though one WAY crosses both", x.apart(), 2);
        Check.tell(x, plain("g") + "from g;to g;");
        due("apart if both are one", x.apart(), 1);
        Check.tell(x, plain("g", "s") + gives("gs1") + "from g;to s;");
        due("apart of one WAY without BETWEEN", x.apart(), 1);
        Check.tell(x, plain("g", "s") + "from g;to s;");
        due("apart without WAYS", x.apart(), 0);
        Check.tell(x, "one g slow 0 holds 0 risk 0 keeps 0;one s slow 0 holds 0 risk 0 keeps 0;"
                + "one b box slow 0 holds 0 risk 0 keeps 0;" + gives("gb1", "bs1") + "from g;to s;");
        due("apart over a BOX", x.apart(), 1);
    }

    private static void cut() {
        ChalkChain x = told(plain("g", "s", "a", "b", "c", "d") + gives("ga1", "ab1", "bs1", "gc1", "cd1", "ds1") + "from g;to s;");
        due("cut: the least set", x.cut(), 4 + 16);
        Check.tell(x, plain("g", "s", "a", "b", "c") + gives("ga1", "gb1", "ac1", "bc1", "cs1") + "from g;to s;");
        due("cut: the fewest", x.cut(), 16);
        Check.tell(x, plain("g", "s", "a") + gives("ga1", "as1", "gs1") + "from g;to s;");
        due("cut: none", x.cut(), NONE);
        Check.tell(x, plain("g", "s", "a") + "one b box slow 0 holds 0 risk 0 keeps 0;" + gives("ga1", "ab1", "bs1") + "from g;to s;");
        due("cut: no BOX", x.cut(), 4);
        Check.tell(x, plain("g", "s") + "one b box slow 0 holds 0 risk 0 keeps 0;" + gives("gb1", "bs1") + "from g;to s;");
        due("cut: a BOX alone", x.cut(), NONE);
        Check.tell(x, plain("g") + "from g;to g;");
        due("cut if both are one", x.cut(), NONE);
        Check.tell(x, plain("g", "s") + "from g;to s;");
        due("cut without WAYS", x.cut(), 0);
        Check.tell(x, plain("g", "s") + gives("gs1") + "from g;");
        due("cut without a SEA", x.cut(), 0);
    }

    private static void fall() {
        // a holds 2; b is slow 1 and would be GONE on 2, but is TAKEN on that DAY; c is soonest by b.
        ChalkChain x = told(one("a", 0, 2, 0, 0) + one("b", 1, 3, 0, 0) + one("c", 0, 9, 0, 0)
                + "one d box slow 0 holds 0 risk 0 keeps 0;" + gives("ab1", "bc1", "cd1"));
        due("fall(0, 0, 0)", x.fall(0, 0, 0), 0);
        due("fall(0, 0, 1)", x.fall(0, 0, 1), NONE);
        due("fall(0, 1, 0)", x.fall(0, 1, 0), 2);
        due("fall(0, 1, 1)", x.fall(0, 1, 1), NONE);
        due("fall(0, 2, 0)", x.fall(0, 2, 0), NONE);
        due("fall(0, 2, 1)", x.fall(0, 2, 1), 3);
        due("fall(0, 3, 0) of a BOX", x.fall(0, 3, 0), NONE);
        due("fall(0, 3, 1) of a BOX", x.fall(0, 3, 1), NONE);
        due("fall(3, 0, 0) of a BOX", x.fall(3, 0, 0), -2);
        due("fall(4, 0, 0)", x.fall(4, 0, 0), -2);
        due("fall(0, 4, 0)", x.fall(0, 4, 0), -2);
        due("fall(0, 0, 2)", x.fall(0, 0, 2), -2);
        for (int wrong : WRONG) {
            due("fall(" + wrong + ", 0, 0)", x.fall(wrong, 0, 0), -2);
            due("fall(0, " + wrong + ", 0)", x.fall(0, wrong, 0), -2);
            due("fall(0, 0, " + wrong + ")", x.fall(0, 0, wrong), -2);
        }
        x.take(1);
        due("fall is on DAY 0, of all", x.fall(0, 1, 0), 2);
        due("fall leaves all as it is", x.one(0, 0), 0);
    }

    private static void fallInOrder() {
        // BOUGHT tell at once, whatever they hold, and are never GONE.
        ChalkChain x = told("one a bought slow 0 holds 9 risk 0 keeps 0;" + one("b", 5, 0, 0, 0) + one("c", 0, 1, 0, 0)
                + one("d", 0, 1, 0, 0) + gives("ab1", "bc1", "cd1"));
        due("bought tells at once", x.fall(0, 1, 0), 0);
        due("who holds 0 tells at once", x.fall(0, 2, 0), 0);
        due("who holds 1 tells a DAY later, as one slow 0 would be GONE", x.fall(0, 3, 0), 1);
        due("bought is never GONE", x.fall(3, 0, 1), NONE);
        // BLIND: b does not KNOW a, so he neither tells of him nor sees that he is TAKEN.
        ChalkChain y = told(one("a", 0, 9, 0, 0) + "one b blind slow 0 holds 1 risk 0 keeps 0;" + gives("ab1"));
        due("blind is TAKEN", y.fall(0, 1, 0), 9);
        due("blind does not see", y.fall(0, 1, 1), NONE);
        due("blind does not tell", y.fall(1, 0, 0), NONE);
        due("who KNOWS a blind one sees", y.fall(1, 0, 1), 1);
        ChalkChain slow = told(one("a", 9, 9, 0, 0) + "one b blind slow 0 holds 1 risk 0 keeps 0;" + gives("ab1"));
        due("the slowest sees", slow.fall(1, 0, 1), 10);
        // The longest FALL: twelve in a row, each holding 9 and slow 9.
        StringBuilder row = new StringBuilder();
        String letters = "abcdefghijkl";
        for (int i = 0; i < 12; i++) {
            row.append(one(letters.substring(i, i + 1), 9, 9, 0, 0));
        }
        for (int i = 0; i < 11; i++) {
            row.append(gives(letters.substring(i, i + 2) + "1"));
        }
        due("the longest FALL", told(row.toString()).fall(0, 11, 0), 99);
        row.setLength(0);
        for (int i = 0; i < 12; i++) {
            row.append(one(letters.substring(i, i + 1), i == 11 ? 8 : 9, 9, 0, 0));
        }
        for (int i = 0; i < 11; i++) {
            row.append(gives(letters.substring(i, i + 2) + "1"));
        }
        due("TAKEN on the DAY on which he would be GONE", told(row.toString()).fall(0, 11, 0), 99);
        String late = row.toString().replace("one l slow 8", "one l slow 7");
        due("GONE a DAY ahead", told(late).fall(0, 11, 1), 98);
    }

    private static void worst() {
        ChalkChain x = told("one z box slow 0 holds 0 risk 0 keeps 0;" + plain("a", "b", "c", "d") + gives("ab1", "cd1"));
        due("worst(0): the first of like ones", x.worst(0), 1);
        due("worst(1)", x.worst(1), 2);
        due("worst(2)", x.worst(2), NONE);
        for (int wrong : WRONG) {
            due("worst(" + wrong + ")", x.worst(wrong), NONE);
        }
        Check.tell(x, "one z box slow 0 holds 0 risk 0 keeps 0;");
        due("worst(0) of BOXES", x.worst(0), NONE);
        due("worst(1) of BOXES", x.worst(1), NONE);
        Check.tell(x, plain("a", "b", "c", "d") + gives("bc1", "cd1"));
        due("worst(0): not the first", x.worst(0), 1);
        due("worst(1): three", x.worst(1), 3);
    }

    private static void send() {
        ChalkChain x = told(plain("g", "a", "b", "s") + gives("ga1", "gb1", "as2", "bs2") + "from g;to s;");
        for (int i = 0; i < 12; i++) {
            due("send", x.send(), i);
        }
        due("send a 13th", x.send(), NONE);
        due("send: THINGS", x.about(5), 12);
        due("send: NEXT, the first of like ones", x.thing(11, 3), 1);
        due("send: due", x.thing(11, 4), 1);
        ChalkChain y = told(one("g", 0, 5, 0, 0) + plain("s") + gives("gs1") + "from g;to s;");
        y.take(0);
        due("send if the GATE is TAKEN", y.send(), NONE);
        due("send if the GATE is TAKEN: THINGS", y.about(5), 0);
        due("send without a GATE", told(plain("g", "s") + gives("gs1") + "to s;").send(), NONE);
        ChalkChain z = told(plain("g", "s") + gives("gs1") + "from g;");
        due("send without a SEA", z.send(), 0);
        due("send without a SEA: who has it", z.thing(0, 0), 0);
        due("send without a SEA: NEXT", z.thing(0, 3), NONE);
    }

    private static void sendToOneself() {
        ChalkChain x = told(plain("g") + "from g;to g;");
        x.day(3);
        due("send if both are one", x.send(), 0);
        int[] want = {-3, 3, 3, NONE, NONE};
        for (int what = 0; what < want.length; what++) {
            due("send if both are one: " + what, x.thing(0, what), want[what]);
        }
        due("send if both are one: COME", x.about(10), 1);
    }

    private static void dueThing(String call, ChalkChain x, int thing, int... want) {
        for (int what = 0; what < want.length; what++) {
            due(call + ": thing(" + thing + ", " + what + ")", x.thing(thing, what), want[what]);
        }
    }

    private static void dayAndThing() {
        ChalkChain x = told(one("g", 9, 9, 0, 0) + one("a", 9, 9, 0, 0) + one("s", 9, 9, 0, 0) + gives("ga2", "as3") + "from g;to s;");
        x.day(1);
        x.send();
        dueThing("sent", x, 0, 0, 1, NONE, 1, 3);
        due("day(1)", x.day(1), 2);
        dueThing("on its way", x, 0, 0, 1, NONE, 1, 3);
        x.day(1);
        dueThing("handed on", x, 0, 1, 1, NONE, 2, 6);
        x.day(3);
        dueThing("COME", x, 0, -3, 1, 6, NONE, NONE);
        due("COME: about(10)", x.about(10), 1);
        due("COME: about(11)", x.about(11), 0);
        // Who has it is TAKEN by hand on the DAY ahead of its being due: it is not handed on.
        ChalkChain y = told(one("g", 9, 9, 0, 0) + one("s", 9, 9, 0, 0) + gives("gs1") + "from g;to s;");
        y.send();
        y.take(0);
        dueThing("TAKEN by hand", y, 0, 0, 0, NONE, 1, 1);
        y.day(1);
        dueThing("LOST", y, 0, -2, 0, 1, NONE, NONE);
        due("LOST: about(11)", y.about(11), 1);
        // It is handed on first, then its new holder is TAKEN by what is told: LOST on that DAY.
        ChalkChain z = told(one("g", 9, 9, 0, 0) + one("a", 9, 9, 0, 0) + one("s", 9, 9, 0, 0) + one("t", 9, 1, 0, 0)
                + gives("ga1", "as1", "ta1") + "from g;to s;");
        z.send();
        z.take(3);
        z.day(1);
        dueThing("LOST by the new holder", z, 0, -2, 0, 1, NONE, NONE);
        due("LOST by the new holder: he is TAKEN", z.one(1, 0), 1);
        due("LOST by the new holder: the GATE is THERE", z.one(0, 0), 0);
    }

    private static void nextAnew() {
        String people = one("g", 9, 9, 0, 0) + one("a", 9, 9, 0, 0) + one("b", 9, 9, 0, 0) + one("s", 9, 9, 0, 0);
        ChalkChain x = told(people + gives("ga1", "gb2", "as1", "bs2") + "from g;to s;");
        x.send();
        x.take(1);
        dueThing("NEXT is TAKEN by hand", x, 0, 0, 0, NONE, 1, 1);
        x.day(1);
        dueThing("chosen anew", x, 0, 0, 0, NONE, 2, 3);
        x.take(2);
        x.day(1);
        dueThing("nobody to choose", x, 0, 0, 0, NONE, NONE, NONE);
        x.day(5);
        due("nobody to choose, later", x.thing(0, 3), NONE);
        // NEXT stays though there is no WAY from him any more; nor does a nearer one change it.
        ChalkChain y = told(people + gives("ga3", "as1", "sg1", "sb1") + "from g;to s;");
        y.send();
        due("a nearer one", y.meet(0, 2, 3), true);
        due("a nearer one: b and s", y.meet(2, 3, 0), true);
        y.day(1);
        dueThing("a nearer one does not change NEXT", y, 0, 0, 0, NONE, 1, 3);
        y.take(3);
        y.day(2);
        dueThing("NEXT has it without a WAY onward", y, 0, 1, 0, NONE, NONE, NONE);
        // A THING without NEXT finds one at the end of the DAY behind a meeting.
        ChalkChain z = told(people + gives("ag1", "as1") + "from g;to s;");
        z.send();
        due("no NEXT", z.thing(0, 3), NONE);
        due("no NEXT: they meet", z.meet(0, 3, 1), true);
        due("no NEXT as they meet", z.thing(0, 3), NONE);
        z.day(1);
        dueThing("NEXT by a meeting", z, 0, 0, 0, NONE, 3, 2);
    }

    private static void day() {
        ChalkChain x = told(plain("a"));
        due("day(0)", x.day(0), 0);
        due("day(100)", x.day(100), NONE);
        for (int wrong : WRONG) {
            due("day(" + wrong + ")", x.day(wrong), NONE);
        }
        for (int i = 1; i <= 10; i++) {
            due("day(99)", x.day(99), 99 * i);
        }
        due("day beyond 1,000", x.day(11), NONE);
        due("day beyond 1,000: DAY", x.about(4), 990);
        due("day up to 1,000", x.day(10), 1000);
        due("day behind 1,000", x.day(1), NONE);
        due("day(0) on 1,000", x.day(0), 1000);
        // a is TAKEN by hand on DAY 4 and tells on 6; c KNOWS b and is GONE on 6 + 1 + 2.
        ChalkChain y = told(one("a", 0, 2, 0, 0) + one("b", 3, 9, 0, 0) + one("c", 2, 9, 0, 0) + gives("ab1", "bc1"));
        y.day(4);
        due("take", y.take(0), 1);
        y.day(1);
        due("b on DAY 5", y.one(1, 0), 0);
        y.day(1);
        due("b on DAY 6", y.one(1, 0), 1);
        due("b since", y.one(1, 1), 6);
        y.day(2);
        due("c on DAY 8", y.one(2, 0), 0);
        y.day(1);
        due("c on DAY 9", y.one(2, 0), 2);
        due("c since", y.one(2, 1), 9);
        y.day(30);
        due("c is GONE for good", y.one(2, 0), 2);
    }

    private static void take() {
        ChalkChain x = told("one a bought slow 0 holds 9 risk 0 keeps 0;" + one("b", 0, 0, 0, 0) + one("c", 0, 1, 0, 0)
                + one("d", 9, 9, 0, 0) + "one e box slow 0 holds 0 risk 0 keeps 0;" + gives("ab1", "bc1", "cd1", "de1"));
        x.day(2);
        due("take of a BOX", x.take(4), NONE);
        due("take(5)", x.take(5), NONE);
        for (int wrong : WRONG) {
            due("take(" + wrong + ")", x.take(wrong), NONE);
        }
        due("take(0)", x.take(0), 3);
        due("take(0): c since", x.one(2, 1), 2);
        due("take of one TAKEN", x.take(2), NONE);
        due("take(3)", x.take(3), 1);
        ChalkChain y = told(one("a", 0, 9, 0, 0) + one("b", 0, 9, 0, 0) + gives("ab1"));
        y.take(0);
        y.day(1);
        due("take: b is GONE", y.one(1, 0), 2);
        due("take of one GONE", y.take(1), NONE);
        // Who met tells of whom he met.
        ChalkChain z = told(one("a", 9, 0, 0, 0) + one("b", 9, 9, 0, 0) + one("c", 9, 9, 0, 0) + gives("ca1", "cb1"));
        z.meet(0, 1, 2);
        due("take of one who met", z.take(0), 3);
    }

    private static void meet() {
        String people = one("a", 9, 9, 0, 0) + "one b blind slow 9 holds 9 risk 0 keeps 0;" + one("c", 9, 9, 0, 0)
                + "one d box slow 0 holds 0 risk 0 keeps 0;" + one("e", 9, 9, 0, 0);
        ChalkChain x = told(people + gives("ca1", "cb1", "cd1", "ce5"));
        due("meet(0, 0, 2)", x.meet(0, 0, 2), false);
        due("meet(0, 2, 2)", x.meet(0, 2, 2), false);
        due("meet(2, 0, 2)", x.meet(2, 0, 2), false);
        due("meet by one who KNOWS one alone", x.meet(1, 2, 0), false);
        due("meet with a BOX", x.meet(0, 3, 2), false);
        due("meet of a BOX", x.meet(3, 0, 2), false);
        due("meet by a BOX", x.meet(0, 1, 3), false);
        for (int wrong : WRONG) {
            due("meet(" + wrong + ", 1, 2)", x.meet(wrong, 1, 2), false);
            due("meet(0, " + wrong + ", 2)", x.meet(0, wrong, 2), false);
            due("meet(0, 1, " + wrong + ")", x.meet(0, 1, wrong), false);
        }
        due("meet(5, 1, 2)", x.meet(5, 1, 2), false);
        due("meet: nothing was done", x.one(0, 2), 4);
        due("meet(0, 1, 2)", x.meet(0, 1, 2), true);
        due("meet: a KNOWS b", x.one(0, 2), 2 + 4);
        due("meet: b, though blind, KNOWS a", x.one(1, 2), 1);
        due("meet(0, 1, 2) again", x.meet(0, 1, 2), false);
        due("meet(1, 0, 2), the other way", x.meet(1, 0, 2), true);
        due("meet(4, 0, 2)", x.meet(4, 0, 2), true);
        due("meet by having met", x.meet(1, 4, 0), true);
        due("meet of one to whom he gives", x.meet(2, 4, 0), false);
        x.take(2);
        due("meet by one TAKEN", x.meet(0, 4, 2), false);
        due("meet by one THERE", x.meet(0, 4, 1), true);
        due("meet: a gives line is none", x.about(1), 4);
    }

    private static void one() {
        ChalkChain x = told(one("a", 0, 9, 0, 0) + one("b", 1, 9, 0, 0) + gives("ab1"));
        due("one(0, 0)", x.one(0, 0), 0);
        due("one(0, 1)", x.one(0, 1), NONE);
        due("one(0, 2)", x.one(0, 2), 2);
        due("one(0, 3)", x.one(0, 3), NONE);
        due("one(2, 0)", x.one(2, 0), NONE);
        for (int wrong : WRONG) {
            due("one(" + wrong + ", 0)", x.one(wrong, 0), NONE);
            due("one(0, " + wrong + ")", x.one(0, wrong), NONE);
        }
        x.day(1);
        x.take(0);
        due("TAKEN", x.one(0, 0), 1);
        due("TAKEN on", x.one(0, 1), 1);
        x.day(2);
        due("GONE", x.one(1, 0), 2);
        due("GONE on", x.one(1, 1), 3);
        due("GONE: whom he KNOWS", x.one(1, 2), 1);
    }

    private static void thing() {
        ChalkChain x = told(plain("g", "s") + gives("gs1") + "from g;to s;");
        due("thing(0, 0) of none", x.thing(0, 0), -4);
        x.send();
        due("thing(0, 0)", x.thing(0, 0), 0);
        due("thing(1, 0)", x.thing(1, 0), -4);
        due("thing(0, 5)", x.thing(0, 5), -4);
        for (int wrong : WRONG) {
            due("thing(" + wrong + ", 0)", x.thing(wrong, 0), -4);
            due("thing(0, " + wrong + ")", x.thing(0, wrong), -4);
        }
    }

    private static void gap() {
        String people = one("g", 9, 9, 0, 0) + one("s", 9, 9, 0, 0) + one("a", 9, 9, 0, 0) + one("b", 9, 9, 0, 0);
        ChalkChain x = told(people + gives("ag1", "ab1", "bs1") + "from g;to s;");
        // g and b by a: then b gives to s.
        due("gap", x.gap(), 1);
        dueWay("gap", x, 0, 3, 1);
        due("gap: meet", x.meet(0, 3, 2), true);
        due("gap closed", x.gap(), 0);
        dueWay("gap closed", x, 0, 3, 1);
        x.take(3);
        due("gap over such as are THERE", x.gap(), NONE);
        dueWay("gap over such as are THERE", x);
        Check.tell(x, people + gives("gs9", "ga1", "as1") + "from g;to s;");
        due("gap: fewest PEOPLE", x.gap(), 0);
        dueWay("gap: fewest PEOPLE", x, 0, 1);
        x.quick();
        x.take(1);
        due("gap: the SEA is not THERE", x.gap(), NONE);
        dueWay("gap: the SEA is not THERE", x);
        Check.tell(x, people + gives("gs9") + "from g;");
        due("gap without a SEA", x.gap(), NONE);
        Check.tell(x, people + gives("gs9") + "to s;");
        due("gap without a GATE", x.gap(), NONE);
        Check.tell(x, people + "from a;to a;");
        due("gap if both are one", x.gap(), 0);
        dueWay("gap if both are one", x, 2);
        // Two acquaintances: g-b by a, b-s by c; the ones that would come by these don't count.
        Check.tell(x, people + one("c", 9, 9, 0, 0) + gives("ag1", "ab1", "cb1", "cs1") + "from g;to s;");
        due("gap of two", x.gap(), 2);
        dueWay("gap of two", x, 0, 3, 1);
        // Fewer acquaintances go ahead of fewer PEOPLE.
        Check.tell(x, people + gives("ga1", "ab1", "bs1", "bg1") + "from g;to s;");
        due("gap: fewer acquaintances first", x.gap(), 0);
        dueWay("gap: fewer acquaintances first", x, 0, 2, 3, 1);
        // A BOX KNOWS nobody.
        Check.tell(x, people + "one c box slow 0 holds 0 risk 0 keeps 0;" + gives("gc1", "sc1") + "from g;to s;");
        due("gap by a BOX", x.gap(), NONE);
    }

    private static void late() {
        ChalkChain x = told(plain("a", "b", "c") + "luck 0;");
        due("late(8, 0)", x.late(8, 0), NONE);
        due("late(1, 100)", x.late(1, 100), NONE);
        due("late(0, 100)", x.late(0, 100), NONE);
        due("late(0, -1)", x.late(0, -1), NONE);
        for (int wrong : WRONG) {
            due("late(" + wrong + ", 0)", x.late(wrong, 0), NONE);
            due("late(1, " + wrong + ")", x.late(1, wrong), NONE);
        }
        due("late: nothing was done", x.about(6), 0);
        due("late(7, 99)", x.late(7, 99), 0);
        for (int i = 1; i < 40; i++) {
            due("late", x.late(1, 0), i);
        }
        due("a 41st", x.late(1, 0), NONE);
        due("a 41st over nobody", x.late(0, 0), NONE);
        due("a 41st taken", x.taken(0, 0), NONE);
        due("a 41st: ENTRIES", x.about(6), 40);
        lateOverNobody();
    }

    /** The bits 0 are a set of PEOPLE as others are. */
    private static void lateOverNobody() {
        ChalkChain x = new ChalkChain();
        due("new: late(0, 0)", x.late(0, 0), 0);
        due("new: late(0, 99)", x.late(0, 99), 1);
        due("new: ENTRIES", x.about(6), 2);
        due("new: as 99 DAYS are no luck", x.spies(0, 0), 0);
        due("new: untell(1)", x.untell(1), true);
        due("new: UNTOLD", x.spies(0, 0), 1);
        ChalkChain y = told(plain("a", "b") + "luck 2;");
        due("late(0, 0)", y.late(0, 0), 0);
        due("late(0, 2)", y.late(0, 2), 1);
        due("over nobody, by luck alone", y.spies(0, 0), 4);
        due("over nobody: nobody was TAKEN", y.origins(0, 0), 200);
        y.later(1);
        due("late(0, 3)", y.late(0, 3), 2);
        due("over nobody, no set accounts for it", y.spies(0, 1), 0);
        due("ahead of it", y.spies(0, 0), 4);
    }

    private static void taken() {
        ChalkChain x = told(plain("a") + "one b box slow 0 holds 0 risk 0 keeps 0;");
        due("taken of a BOX", x.taken(1, 0), NONE);
        due("taken(2, 0)", x.taken(2, 0), NONE);
        due("taken(0, 100)", x.taken(0, 100), NONE);
        for (int wrong : WRONG) {
            due("taken(" + wrong + ", 0)", x.taken(wrong, 0), NONE);
            due("taken(0, " + wrong + ")", x.taken(0, wrong), NONE);
        }
        due("taken: nothing was done", x.about(6), 0);
        due("late over a BOX", x.late(2, 0), 0);
        due("taken(0, 99)", x.taken(0, 99), 1);
        due("taken(0, 0)", x.taken(0, 0), 2);
        due("two that can't both be", x.origins(0, 0), 0);
    }

    private static void untell() {
        ChalkChain x = told(plain("a"));
        due("untell(0) of none", x.untell(0), false);
        x.late(1, 1);
        due("untell(1)", x.untell(1), false);
        for (int wrong : WRONG) {
            due("untell(" + wrong + ")", x.untell(wrong), false);
        }
        due("as known at 0", x.spies(2, 0), 1);
        due("untell(0)", x.untell(0), true);
        due("untell(0) again", x.untell(0), false);
        due("UNTOLD at the same TIME", x.spies(0, 0), 2);
        due("untell: ENTRIES", x.about(6), 1);
    }

    private static void later() {
        ChalkChain x = new ChalkChain();
        due("later(0)", x.later(0), 0);
        due("later(1001)", x.later(1001), NONE);
        for (int wrong : WRONG) {
            due("later(" + wrong + ")", x.later(wrong), NONE);
        }
        for (int i = 1; i < 100; i++) {
            due("later(1000)", x.later(1000), 1000 * i);
        }
        due("later(999)", x.later(999), 99999);
        due("later above 100,000", x.later(2), NONE);
        due("later above 100,000: TIME", x.about(7), 99999);
        due("later up to 100,000", x.later(1), 100000);
        due("later behind 100,000", x.later(1), NONE);
        due("later(0) at 100,000", x.later(0), 100000);
    }

    private static void spies() {
        ChalkChain x = told(plain("a", "b", "c", "d") + "one e box slow 0 holds 0 risk 0 keeps 0;luck 1;");
        // 1 + 4 + 6 + 4 sets of 0 to 3 out of four; no BOX.
        due("spies without ENTRIES", x.spies(0, 0), 15);
        due("spies without ENTRIES, in all", x.spies(1, 0), 0);
        due("spies without ENTRIES, in any", x.spies(2, 0), 15);
        x.later(10);
        x.late(1 + 2 + 16, 3);
        due("both must be", x.spies(0, 10), 3);
        due("both must be, in all", x.spies(1, 10), 3);
        due("both must be, in any", x.spies(2, 10), 15);
        due("ahead of it", x.spies(0, 9), 15);
        x.later(5);
        x.late(2, 0);
        due("nobody can be", x.spies(0, 15), 0);
        due("nobody can be, in all", x.spies(1, 15), 0);
        due("nobody can be, in any", x.spies(2, 15), 0);
        x.later(5);
        x.untell(0);
        due("UNTOLD: a set without b", x.spies(0, 20), 8);
        due("UNTOLD: in any", x.spies(2, 20), 13);
        due("just ahead of its being UNTOLD", x.spies(0, 19), 0);
        due("as known far later", x.spies(0, Integer.MAX_VALUE), 8);
        due("as known far ahead", x.spies(0, Integer.MIN_VALUE), 15);
        due("spies(3, 0)", x.spies(3, 0), NONE);
        for (int wrong : WRONG) {
            due("spies(" + wrong + ", 0)", x.spies(wrong, 0), NONE);
        }
        x.untell(1);
        x.late(15, 4);
        due("four late, three spies and luck", x.spies(0, 20), 4);
        x.late(15, 5);
        due("five late", x.spies(0, 20), 0);
        ChalkChain y = told(plain("a"));
        y.taken(0, 5);
        due("who was TAKEN is nothing that came late", y.spies(0, 0), 2);
        y.late(1, 1);
        due("without luck", y.spies(1, 0), 1);
    }

    private static void origins() {
        ChalkChain x = told(one("a", 9, 2, 0, 0) + one("b", 9, 3, 0, 0) + "one c box slow 0 holds 0 risk 0 keeps 0;" + gives("ab1"));
        due("origins without ENTRIES", x.origins(0, 0), 200);
        due("origins without ENTRIES, who", x.origins(1, 0), 3);
        due("origins without ENTRIES, the first", x.origins(2, 0), 0);
        x.late(1, 99);
        due("what came late is nobody TAKEN", x.origins(0, 0), 200);
        x.later(1);
        x.taken(1, 4);
        due("b TAKEN on 4", x.origins(0, 1), 2);
        due("b TAKEN on 4: who", x.origins(1, 1), 3);
        due("b TAKEN on 4: the first", x.origins(2, 1), 2);
        due("ahead of it", x.origins(0, 0), 200);
        x.taken(0, 7);
        due("a TAKEN on 7", x.origins(0, 1), 1);
        due("a TAKEN on 7: who", x.origins(1, 1), 2);
        due("a TAKEN on 7: the first", x.origins(2, 1), 104);
        x.taken(0, 8);
        due("a TAKEN twice", x.origins(0, 1), 0);
        due("a TAKEN twice: who", x.origins(1, 1), 0);
        due("a TAKEN twice: the first", x.origins(2, 1), NONE);
        x.later(1);
        x.untell(3);
        due("UNTOLD", x.origins(2, 2), 104);
        due("ahead of its being UNTOLD", x.origins(2, 1), NONE);
        due("origins(3, 0)", x.origins(3, 0), NONE);
        for (int wrong : WRONG) {
            due("origins(" + wrong + ", 0)", x.origins(wrong, 0), NONE);
        }
        ChalkChain y = told(one("a", 9, 2, 0, 0) + one("b", 9, 3, 0, 0) + gives("ab1"));
        y.taken(1, 1);
        due("a DAY below 0 is none", y.origins(0, 0), 1);
        due("a DAY below 0 is none: the first", y.origins(2, 0), 101);
    }

    private static void image() {
        ChalkChain x = told(plain("g", "s") + gives("gs1") + "from g;to s;");
        x.day(4);
        for (int box = 0; box < 3; box++) {
            due("image(" + box + ")", x.image(box), 4);
        }
        due("image(3)", x.image(3), NONE);
        for (int wrong : WRONG) {
            due("image(" + wrong + ")", x.image(wrong), NONE);
        }
    }

    private static void back() {
        ChalkChain x = told(one("g", 9, 9, 0, 0) + one("s", 9, 9, 0, 0) + one("a", 9, 9, 0, 0) + gives("ag1", "as1", "gs4") + "from g;to s;");
        due("back(0) of nothing", x.back(0), NONE);
        due("back(3)", x.back(3), NONE);
        for (int wrong : WRONG) {
            due("back(" + wrong + ")", x.back(wrong), NONE);
        }
        x.send();
        x.day(2);
        x.image(0);
        due("back: they meet", x.meet(1, 0, 2), true);
        x.send();
        x.take(2);
        x.day(2);
        x.later(7);
        x.late(1, 1);
        x.quick();
        x.image(1);
        dueThing("ahead of back", x, 0, -3, 0, 4, NONE, NONE);
        due("back(0)", x.back(0), 2);
        due("back(0): DAY", x.about(4), 2);
        due("back(0): THINGS", x.about(5), 1);
        dueThing("back(0)", x, 0, 0, 0, NONE, 1, 4);
        due("back(0): THERE", x.one(2, 0), 0);
        due("back(0): since", x.one(2, 1), NONE);
        due("back(0): who met", x.one(1, 2), 5);
        due("back(0): ENTRIES stay", x.about(6), 1);
        due("back(0): the TIME stays", x.about(7), 7);
        due("back(0): the WAY stays", x.about(9), 2);
        due("back(0): they meet again", x.meet(1, 0, 2), true);
        due("back(1)", x.back(1), 4);
        due("back(1): TAKEN", x.one(2, 0), 1);
        due("back(1): THINGS", x.about(5), 2);
        x.day(9);
        due("back(0) again, gone on from", x.back(0), 2);
        dueThing("back(0) again", x, 0, 0, 0, NONE, 1, 4);
        due("back(2) of nothing", x.back(2), NONE);
        due("back(2): nothing was done", x.about(4), 2);
        due("back(32)", x.back(32), NONE);
        ChalkChain y = told(one("a", 9, 9, 0, 0) + one("b", 9, 9, 0, 0) + one("c", 9, 9, 0, 0) + gives("ca1", "cb1"));
        y.image(2);
        y.meet(0, 1, 2);
        due("ahead of back(2): whom he KNOWS", y.one(0, 2), 6);
        y.image(1);
        y.back(2);
        due("back(2): whom he KNOWS", y.one(0, 2), 4);
        y.back(1);
        due("back(1): whom he KNOWS", y.one(0, 2), 6);
        due("back(1): they have met", y.meet(0, 1, 2), false);
    }

    private static void about() {
        ChalkChain x = told(one("g", 9, 9, 0, 0) + one("s", 9, 9, 0, 0) + one("a", 9, 9, 0, 0) + gives("gs1", "ga1") + "from g;to s;");
        x.feed(0, 0, 0, 0, 0);
        x.send();
        x.day(1);
        x.send();
        x.take(0);
        x.day(1);
        x.later(6);
        x.taken(0, 1);
        x.quick();
        int[] want = {3, 2, 0, 1, 2, 2, 1, 6, 20, 2, 1, 1};
        for (int what = 0; what < want.length; what++) {
            due("about(" + what + ")", x.about(what), want[what]);
        }
        due("about(12)", x.about(12), NONE);
        for (int wrong : WRONG) {
            due("about(" + wrong + ")", x.about(wrong), NONE);
        }
    }
}
