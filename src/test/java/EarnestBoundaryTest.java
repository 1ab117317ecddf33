/** The boundary cases of DAYS in earnest: promises 15 to 21, 28 and 29, with their terms. */
public final class EarnestBoundaryTest extends Boundary {
    private static final String[] LETTERS = "a b c d e f g h i j k l".split(" ");
    private static final String ENDS = "from g;to s;";

    public static void main(String[] args) {
        zeroAtFirst();
        nextIsThere();
        nextOverThere();
        nextOfLikeOnes();
        chosenAnew();
        asManyDays();
        comeAtTheSea();
        handedOnFirst();
        takenThenGone();
        comesToKnow();
        lostThenChosen();
        takenByHand();
        send();
        sendRefused();
        day();
        dayRefused();
        take();
        takeRefused();
        meet();
        meetRefused();
        one();
        thing();
        gapTerms();
        gap();
        image();
        notKept();
        back();
        close("EarnestBoundaryTest", 15, 16, 17, 18, 19, 20, 21, 28, 29);
    }

    private static void zeroAtFirst() {
        terms("In earnest a DAY follows another one (0 at first).");
        ChalkChain x = new ChalkChain();
        due("an empty CITY", x.about(4), 0);
        for (int day = 1; day <= 20; day++) {
            due("day(1)", x.day(1), day);
        }
        tell(x, plain("a"));
        due("a CITY anew", x.about(4), 0);
    }

    private static void nextIsThere() {
        terms("of those who are THERE (neither TAKEN nor GONE) and to whom he gives");
        // a is near, b far; t is KNOWN by a alone, who is GONE on the DAY behind his being TAKEN.
        String text = calm("g", "s") + one("a", 0, 9, 0, 0) + calm("b") + kind("t", "blind", 9, 9)
                + gives("ga1", "as1", "gb2", "bs2", "at1") + ENDS;
        ChalkChain x = told(text);
        x.send();
        due("THERE", x.thing(0, 3), 2);
        x.take(2);
        x.send();
        due("TAKEN", x.thing(1, 3), 3);
        ChalkChain y = told(text);
        y.take(4);
        y.day(1);
        due("a is GONE", y.one(2, 0), 2);
        y.send();
        due("GONE", y.thing(0, 3), 3);
        ChalkChain z = told(calm("g", "s", "a") + gives("as1", "sg1", "ag1") + ENDS);
        z.send();
        due("who gives to nobody", z.thing(0, 3), NONE);
    }

    private static void nextOverThere() {
        terms("the one by whom it takes least to come to the SEA over such as are THERE");
        String text = calm("g", "s", "a", "b", "c") + gives("ga1", "ac1", "cs1", "gb4", "bs1") + ENDS;
        ChalkChain x = told(text);
        x.send();
        dueThing("over a and c", x, 0, 0, 0, NONE, 2, 1);
        x.take(4);
        x.send();
        dueThing("c is TAKEN", x, 1, 0, 0, NONE, 3, 4);
        ChalkChain y = told(calm("g", "s", "a", "b") + gives("ga1", "as9", "gb9", "bs2") + ENDS);
        y.send();
        dueThing("1 and 9 are less than 9 and 2", y, 0, 0, 0, NONE, 2, 1);
        ChalkChain z = told(calm("g", "s", "a", "b") + gives("ga1", "as9", "gb8", "bs1") + ENDS);
        z.send();
        dueThing("8 and 1 are less than 1 and 9", z, 0, 0, 0, NONE, 3, 8);
        ChalkChain w = told(calm("g", "s", "a") + gives("gs3", "ga1", "as1") + ENDS);
        w.send();
        dueThing("to the SEA itself", w, 0, 0, 0, NONE, 2, 1);
        ChalkChain v = told(calm("g", "s", "a") + gives("ga1", "as1") + ENDS);
        v.take(1);
        v.send();
        dueThing("the SEA is TAKEN", v, 0, 0, 0, NONE, NONE, NONE);
        // Behind its choice a and c are TAKEN: b is no longer near then, d is.
        ChalkChain q = told(calm("g", "s", "a", "b", "c", "d") + gives("ga2", "as1", "gb1", "bc1", "cs2", "bs9", "gd2", "ds3") + ENDS);
        q.send();
        dueThing("a first", q, 0, 0, 0, NONE, 2, 2);
        q.take(2);
        q.take(4);
        q.day(1);
        dueThing("d, as a and c are TAKEN", q, 0, 0, 0, NONE, 5, 3);
        // The SEA is told first, the GATE last.
        ChalkChain p = told(calm("s", "a", "b", "g") + gives("gb1", "ba1", "as1") + ENDS);
        p.send();
        p.day(2);
        dueThing("from the last to the first", p, 0, 1, 0, NONE, 0, 3);
        p.day(1);
        due("from the last to the first", p.thing(0, 0), -3);
        StringBuilder down = new StringBuilder(calm(LETTERS));
        for (int i = 1; i < 12; i++) {
            down.append(gives(LETTERS[i] + LETTERS[i - 1] + "1"));
        }
        ChalkChain o = told(down + "from l;to a;");
        o.send();
        for (int day = 0; day < 11; day++) {
            dueThing("down all twelve, DAY " + day, o, 0, 11 - day, 0, NONE, 10 - day, day + 1);
            o.day(1);
        }
        dueThing("down all twelve", o, 0, -3, 0, 11, NONE, NONE);
        // All twelve in a row, each step of 9 DAYS.
        StringBuilder row = new StringBuilder(calm(LETTERS));
        for (int i = 1; i < 12; i++) {
            row.append(gives(LETTERS[i - 1] + LETTERS[i] + "9"));
        }
        ChalkChain u = told(row + "from a;to l;");
        u.send();
        u.day(98);
        dueThing("on DAY 98 of the longest WAY", u, 0, 10, 0, NONE, 11, 99);
        u.day(1);
        dueThing("on DAY 99 of the longest WAY", u, 0, -3, 0, 99, NONE, NONE);
    }

    private static void nextOfLikeOnes() {
        terms("of like ones the first. He chooses as he gets it (at the end of that DAY)");
        ChalkChain x = told(calm("b", "a", "g", "s") + gives("ga1", "as2", "gb2", "bs1") + ENDS);
        x.send();
        dueThing("the first by its number", x, 0, 2, 0, NONE, 0, 2);
        // a gets it on DAY 2; on that DAY c, who was nearer, is TAKEN by what t tells.
        ChalkChain y = told(calm("g", "s", "a", "b", "c") + one("t", 9, 2, 0, 0)
                + gives("ga2", "ac1", "cs1", "ab3", "bs3", "tc1") + ENDS);
        y.send();
        y.take(5);
        y.day(2);
        due("c is TAKEN on DAY 2", y.one(4, 1), 2);
        dueThing("chosen at the end of that DAY", y, 0, 2, 0, NONE, 3, 5);
    }

    private static void chosenAnew() {
        terms("anew at the end of each DAY on which he has no NEXT, or that one is not THERE");
        String text = calm("g", "s", "a", "b") + gives("ga5", "as1", "gb9", "bs9") + ENDS;
        ChalkChain x = told(text);
        x.send();
        x.day(2);
        x.take(2);
        dueThing("not ahead of the end of the DAY", x, 0, 0, 0, NONE, 2, 5);
        x.day(1);
        dueThing("NEXT is TAKEN", x, 0, 0, 0, NONE, 3, 12);
        ChalkChain y = told(calm("g", "s", "a", "b") + gives("ga5", "as1", "sb1", "sg1") + ENDS);
        y.send();
        due("a nearer one", y.meet(0, 3, 1), true);
        due("a nearer one, to the SEA", y.meet(3, 1, 0), true);
        y.day(4);
        dueThing("NEXT is THERE and stays", y, 0, 0, 0, NONE, 2, 5);
        y.send();
        dueThing("the nearer one for another THING", y, 1, 0, 4, NONE, 3, 5);
        ChalkChain z = told(calm("g", "s", "a") + gives("ag1", "as1") + ENDS);
        z.send();
        z.day(3);
        dueThing("no NEXT", z, 0, 0, 0, NONE, NONE, NONE);
        z.meet(0, 1, 2);
        z.day(1);
        dueThing("NEXT, as there is one", z, 0, 0, 0, NONE, 1, 5);
        // On the DAY on which it is due NEXT is GONE already: t was TAKEN, whom he KNOWS.
        ChalkChain w = told(calm("g", "s") + one("a", 0, 9, 0, 0) + kind("t", "blind", 9, 9) + gives("ga2", "as1", "at1", "gs9") + ENDS);
        w.send();
        w.take(3);
        w.day(2);
        due("a is GONE", w.one(2, 1), 1);
        dueThing("NEXT is GONE", w, 0, 0, 0, NONE, 1, 10);
    }

    private static void asManyDays() {
        terms("As many DAYS behind his choice as it takes to give to him his NEXT has it.");
        for (int takes = 1; takes <= 9; takes++) {
            ChalkChain x = told(calm("g", "s", "a") + gives("ga" + takes, "as1") + ENDS);
            x.day(7);
            x.send();
            dueThing("takes " + takes, x, 0, 0, 7, NONE, 2, 7 + takes);
            x.day(takes - 1);
            due("a DAY ahead", x.thing(0, 0), 0);
            x.day(1);
            dueThing("on that DAY", x, 0, 2, 7, NONE, 1, 8 + takes);
        }
    }

    private static void comeAtTheSea() {
        terms("At the SEA it has COME.");
        ChalkChain x = told(calm("g", "s") + gives("gs1", "sg1") + ENDS);
        x.send();
        x.day(1);
        dueThing("at the SEA", x, 0, -3, 0, 1, NONE, NONE);
        x.take(1);
        x.day(20);
        dueThing("for good", x, 0, -3, 0, 1, NONE, NONE);
        due("COME", x.about(10), 1);
        due("none is LOST", x.about(11), 0);
        ChalkChain y = told(calm("g") + "from g;to g;");
        y.day(3);
        y.send();
        dueThing("the GATE is the SEA", y, 0, -3, 3, 3, NONE, NONE);
    }

    private static void handedOnFirst() {
        terms("THINGS that are due are handed on, by their numbers, by such as are THERE to a NEXT who is THERE");
        // t tells on DAY 2 of the giver; the THING was handed on ahead of that.
        ChalkChain x = told(calm("g", "s") + one("t", 9, 2, 0, 0) + gives("gs2", "tg1") + ENDS);
        x.send();
        x.take(2);
        x.day(2);
        due("the GATE is TAKEN on DAY 2", x.one(0, 1), 2);
        dueThing("handed on first", x, 0, -3, 0, 2, NONE, NONE);
        // The SEA itself is TAKEN on that DAY.
        ChalkChain y = told(calm("g", "s") + one("t", 9, 2, 0, 0) + gives("gs2", "ts1") + ENDS);
        y.send();
        y.take(2);
        y.day(2);
        due("the SEA is TAKEN on DAY 2", y.one(1, 1), 2);
        dueThing("COME ahead of that", y, 0, -3, 0, 2, NONE, NONE);
        ChalkChain z = told(calm("g", "s") + gives("gs2") + ENDS);
        z.send();
        z.day(1);
        z.take(0);
        z.day(1);
        dueThing("by one TAKEN", z, 0, -2, 0, 2, NONE, NONE);
        ChalkChain w = told(calm("g", "s") + gives("gs2") + ENDS);
        w.send();
        w.day(1);
        w.take(1);
        w.day(1);
        dueThing("to one TAKEN", w, 0, 0, 0, NONE, NONE, NONE);
        ChalkChain v = told(calm("g", "s", "a") + gives("ga1", "as1") + ENDS);
        for (int i = 0; i < 12; i++) {
            v.send();
        }
        v.day(1);
        for (int i = 0; i < 12; i++) {
            due("all twelve on one DAY", v.thing(i, 0), 2);
        }
        v.day(1);
        due("all twelve have COME", v.about(10), 12);
    }

    private static void takenThenGone() {
        terms("PEOPLE are TAKEN by what is told; then some are GONE");
        for (int holds = 1; holds <= 9; holds++) {
            for (int slow = 0; slow <= 9; slow++) {
                ChalkChain x = told(one("a", 0, holds, 0, 0) + one("b", slow, 9, 0, 0) + gives("ab1"));
                x.day(3);
                x.take(0);
                boolean taken = holds <= slow + 1;
                int day = taken ? holds : slow + 1;
                x.day(day - 1);
                due("holds " + holds + ", slow " + slow + ": a DAY ahead", x.one(1, 0), 0);
                x.day(1);
                due("holds " + holds + ", slow " + slow, x.one(1, 0), taken ? 1 : 2);
                x.day(30);
                due("holds " + holds + ", slow " + slow + ": for good", x.one(1, 0), taken ? 1 : 2);
                due("holds " + holds + ", slow " + slow + ": since", x.one(1, 1), 3 + day);
            }
        }
    }

    private static void comesToKnow() {
        terms("at once, if that is over as he comes to KNOW him");
        // Only such as are THERE can meet, so nobody comes to KNOW one TAKEN: it begins as that one is TAKEN.
        String text = one("a", 1, 9, 0, 0) + kind("b", "blind", 9, 9) + kind("c", "bought", 9, 9) + gives("cb1", "ca1");
        ChalkChain x = told(text);
        x.day(3);
        x.take(1);
        due("with one TAKEN", x.meet(0, 1, 2), false);
        due("of one TAKEN", x.meet(1, 0, 2), false);
        x.day(9);
        due("he does not KNOW him", x.one(0, 0), 0);
        ChalkChain y = told(text);
        due("with one THERE", y.meet(0, 1, 2), true);
        y.day(5);
        y.take(1);
        y.day(1);
        due("he has seen it", y.one(0, 0), 0);
        y.day(1);
        due("he is GONE", y.one(0, 0), 2);
        due("he is GONE", y.one(0, 1), 7);
        // On one DAY one is TAKEN behind their meeting.
        ChalkChain z = told(text);
        z.day(2);
        due("on that DAY", z.meet(1, 0, 2), true);
        z.take(0);
        due("whom he met sees it", z.one(1, 2), 1);
        z.day(9);
        due("he waits", z.one(1, 0), 1);
        due("he is TAKEN on DAY 11, ahead of his being GONE", z.one(1, 1), 11);
    }

    private static void lostThenChosen() {
        terms("THINGS that are held by such as are not THERE are LOST; then it is chosen");
        // The GATE is GONE on DAY 1, as it KNOWS t.
        ChalkChain x = told(one("g", 0, 9, 0, 0) + calm("s") + kind("t", "blind", 9, 9) + gives("gs5", "gt1") + ENDS);
        x.send();
        x.take(2);
        x.day(1);
        due("the GATE is GONE", x.one(0, 0), 2);
        dueThing("held by one GONE", x, 0, -2, 0, 1, NONE, NONE);
        x.day(9);
        dueThing("for good", x, 0, -2, 0, 1, NONE, NONE);
        due("LOST", x.about(11), 1);
        // NEXT is TAKEN by what is told on DAY 1 and another one is chosen on that DAY.
        ChalkChain y = told(calm("g", "s", "a", "b") + one("t", 9, 1, 0, 0) + gives("ga2", "as1", "gb3", "bs1", "ta1") + ENDS);
        y.send();
        y.take(4);
        y.day(1);
        dueThing("chosen on the DAY on which NEXT is TAKEN", y, 0, 0, 0, NONE, 3, 4);
    }

    private static void takenByHand() {
        terms("(on the DAY that is; who holds 0, or is BOUGHT, tells at once; what he has is LOST at the end of the next DAY)");
        ChalkChain x = told(calm("g", "s", "a") + gives("ga3", "as1") + ENDS);
        x.day(4);
        x.send();
        x.day(1);
        x.take(0);
        due("on the DAY that is", x.one(0, 1), 5);
        dueThing("ahead of the end of the next DAY", x, 0, 0, 4, NONE, 2, 7);
        due("ahead of the end of the next DAY", x.about(11), 0);
        x.day(1);
        dueThing("at the end of the next DAY", x, 0, -2, 4, 6, NONE, NONE);
        due("at the end of the next DAY", x.about(11), 1);
        for (int holds = 0; holds <= 9; holds++) {
            ChalkChain y = told(one("a", 9, holds, 0, 0) + calm("b") + gives("ab1"));
            due("holds " + holds, y.take(0), holds == 0 ? 2 : 1);
            ChalkChain z = told(kind("a", "bought", 9, holds) + calm("b") + gives("ab1"));
            due("BOUGHT, holds " + holds, z.take(0), 2);
        }
    }

    private static void send() {
        promise(15, "A THING is SENT: its number");
        ChalkChain x = told(calm("g", "s") + gives("gs1") + ENDS);
        for (int i = 0; i < 12; i++) {
            due("send " + i, x.send(), i);
            due("THINGS", x.about(5), i + 1);
            x.day(1);
        }
        due("sent on DAY 11", x.thing(11, 1), 11);

        promise(15, "(It is chosen at once to whom it goes.)");
        ChalkChain y = told(calm("g", "s") + gives("gs4") + ENDS);
        y.day(2);
        y.send();
        dueThing("at once", y, 0, 0, 2, NONE, 1, 6);
        ChalkChain z = told(calm("g", "s") + gives("gs4") + "from g;");
        due("without a SEA", z.send(), 0);
        dueThing("without a SEA", z, 0, 0, 0, NONE, NONE, NONE);
        z.day(99);
        dueThing("without a SEA, later", z, 0, 0, 0, NONE, NONE, NONE);
        ChalkChain w = told(box("g") + calm("s") + gives("gs1") + ENDS);
        due("the GATE is a BOX", w.send(), 0);
        w.day(1);
        due("the GATE is a BOX", w.thing(0, 0), -3);
    }

    private static void dueRefused(String call, ChalkChain x) {
        String before = look(x);
        due(call, x.send(), NONE);
        due(call + ", again", x.send(), NONE);
        dueSame(call + ": nothing was done", look(x), before);
    }

    private static void sendRefused() {
        promise(15, "NONE, doing nothing, without a GATE, if the GATE is not THERE, or there are 12.");
        dueRefused("an empty CITY", new ChalkChain());
        dueRefused("without a GATE", told(calm("g", "s") + gives("gs1") + "to s;"));
        ChalkChain taken = told(calm("g", "s") + gives("gs1") + ENDS);
        taken.take(0);
        dueRefused("the GATE is TAKEN", taken);
        ChalkChain gone = told(one("g", 0, 9, 0, 0) + calm("s") + kind("t", "blind", 9, 9) + gives("gs1", "gt1") + ENDS);
        gone.take(2);
        due("the GATE is THERE as yet", gone.send(), 0);
        gone.day(1);
        due("the GATE is GONE", gone.one(0, 0), 2);
        dueRefused("the GATE is GONE", gone);
        ChalkChain full = told(calm("g", "s") + gives("gs1") + ENDS);
        for (int i = 0; i < 12; i++) {
            due("send", full.send(), i);
        }
        dueRefused("there are 12", full);
        full.day(1);
        due("all have COME", full.about(10), 12);
        dueRefused("there are 12 that have COME", full);
        ChalkChain lost = told(calm("g", "s") + gives("gs5") + ENDS);
        lost.image(0);
        for (int i = 0; i < 12; i++) {
            lost.send();
        }
        lost.take(0);
        lost.day(1);
        due("all are LOST", lost.about(11), 12);
        dueRefused("there are 12 that are LOST", lost);
        lost.back(0);
        due("as many as there were", lost.send(), 0);
    }

    private static void day() {
        promise(16, "So many DAYS (0 .. 99): the DAY then");
        ChalkChain x = told(calm("g", "s") + gives("gs1") + ENDS);
        x.send();
        String before = look(x);
        due("day(0)", x.day(0), 0);
        dueSame("day(0)", look(x), before);
        due("day(1)", x.day(1), 1);
        due("day(99)", x.day(99), 100);
        due("day(98)", x.day(98), 198);
        // 99 at once are as 99 one by one.
        String text = one("a", 9, 9, 0, 0) + one("b", 9, 7, 0, 0) + one("c", 9, 8, 0, 0) + one("d", 3, 9, 0, 0)
                + gives("ab3", "bc4", "cd5", "da6") + "from a;to d;";
        ChalkChain y = told(text);
        ChalkChain z = told(text);
        for (ChalkChain w : new ChalkChain[] {y, z}) {
            w.send();
            w.take(2);
        }
        y.day(99);
        for (int i = 0; i < 99; i++) {
            z.day(1);
        }
        dueSame("99 one by one", look(z), look(y));
    }

    private static void dueRefused(String call, ChalkChain x, int... days) {
        String before = look(x);
        for (int many : days) {
            due("day(" + many + ") " + call, x.day(many), NONE);
        }
        dueSame(call + ": nothing was done", look(x), before);
    }

    private static void dayRefused() {
        promise(16, "NONE, doing nothing, for another number, or beyond 1,000.");
        ChalkChain x = told(calm("g", "s") + gives("gs9") + ENDS);
        x.send();
        dueRefused("on DAY 0", x, wrong(100, 101, 128, 256, 1000, 1001));
        for (int i = 1; i <= 9; i++) {
            due("day(99)", x.day(99), 99 * i);
        }
        due("on DAY 891", x.day(11), 902);
        dueRefused("on DAY 902", x, 99, 100);
        due("day(98) on DAY 902", x.day(98), 1000);
        dueRefused("on DAY 1,000", x, wrong(1, 2, 99, 100));
        due("day(0) on DAY 1,000", x.day(0), 1000);
        due("send on DAY 1,000", x.send(), 1);
        dueThing("due beyond DAY 1,000", x, 1, 0, 1000, NONE, 1, 1009);
        due("take on DAY 1,000", x.take(0), 1);
        due("image on DAY 1,000", x.image(0), 1000);
        due("back on DAY 1,000", x.back(0), 1000);
    }

    private static void take() {
        promise(17, "how many are then (he, and those told of at once)");
        ChalkChain x = told(calm("a"));
        due("one alone", x.take(0), 1);
        StringBuilder row = new StringBuilder();
        for (int i = 0; i < 12; i++) {
            row.append(i % 2 == 0 ? one(LETTERS[i], 0, 0, 0, 0) : kind(LETTERS[i], "bought", 0, 9));
        }
        for (int i = 1; i < 12; i++) {
            row.append(gives(LETTERS[i - 1] + LETTERS[i] + "1"));
        }
        due("all of 12, from the first", told(row.toString()).take(0), 12);
        due("all of 12, from the last", told(row.toString()).take(11), 12);
        due("all of 12, from between", told(row.toString()).take(5), 12);
        ChalkChain y = told(calm("a", "b", "c") + gives("ab1"));
        due("one", y.take(0), 1);
        due("another one, by himself", y.take(2), 1);
        ChalkChain z = told(one("a", 9, 0, 0, 0) + calm("b", "c") + gives("ab1", "ac1"));
        z.take(1);
        due("without him who was TAKEN", z.take(0), 2);
    }

    private static void takeRefused() {
        promise(17, "NONE, doing nothing, if he is not THERE, a BOX, or there is none such.");
        ChalkChain empty = new ChalkChain();
        for (int one : strangers(0)) {
            due("take(" + one + ") of none", empty.take(one), NONE);
        }
        ChalkChain x = told(calm("a", "b") + one("c", 0, 9, 0, 0) + box("d") + gives("ac1", "ad1", "da1"));
        x.day(2);
        due("take", x.take(0), 1);
        x.day(1);
        due("c is GONE", x.one(2, 0), 2);
        String before = look(x);
        due("TAKEN", x.take(0), NONE);
        due("GONE", x.take(2), NONE);
        due("a BOX", x.take(3), NONE);
        for (int one : strangers(4)) {
            due("take(" + one + ")", x.take(one), NONE);
        }
        dueSame("nothing was done", look(x), before);
        due("a BOX is THERE", x.one(3, 0), 0);
        due("TAKEN when he was", x.one(0, 1), 2);
        ChalkChain full = told(plain(LETTERS));
        due("the last of 12", full.take(11), 1);
        for (int one : strangers(12)) {
            due("take(" + one + ") of 12", full.take(one), NONE);
        }
    }

    private static void meet() {
        terms("a gives to b from now on (it takes 1), if all three are THERE, none is a BOX, and c KNOWS both (as told or by"
                + " having met); a and b KNOW one another then.");
        ChalkChain x = told(calm("g", "s", "a", "b") + gives("ag1", "as1", "gb9", "bs9") + ENDS);
        due("meet", x.meet(0, 1, 2), true);
        x.send();
        dueThing("it takes 1", x, 0, 0, 0, NONE, 1, 1);
        due("a KNOWS b", x.one(0, 2), 2 + 4 + 8);
        due("b KNOWS a", x.one(1, 2), 1 + 4 + 8);
        ChalkChain y = told(kind("a", "blind", 9, 9) + kind("b", "blind", 9, 9) + calm("c", "d") + gives("ca1", "cb1", "cd1"));
        due("BLIND ones meet", y.meet(0, 1, 2), true);
        due("a BLIND one KNOWS whom he met", y.one(0, 2), 2);
        due("a BLIND one KNOWS who met him", y.one(1, 2), 1);
        due("by one who does not KNOW both as yet", y.meet(1, 3, 0), false);
        due("a and d meet", y.meet(0, 3, 2), true);
        due("by having met", y.meet(1, 3, 0), true);
        ChalkChain z = told(calm("g", "s", "a") + gives("ag1", "as1") + ENDS);
        due("the other way too", z.meet(0, 1, 2), true);
        due("the other way too", z.meet(1, 0, 2), true);
        ChalkChain w = told(calm(LETTERS) + gives("al1", "ak1"));
        due("the last two of 12", w.meet(11, 10, 0), true);
        due("the last but one KNOWS the last", w.one(10, 2), 1 + 2048);
        due("the last KNOWS the last but one", w.one(11, 2), 1 + 1024);
    }

    private static void meetRefused() {
        promise(18, "false, doing nothing, if it can't be, or a gives to b already, or two are one.");
        ChalkChain x = told(calm("a", "b", "c") + box("d") + calm("e") + one("f", 0, 9, 0, 0) + kind("t", "blind", 9, 9)
                + gives("ca1", "cb1", "cd1", "ce2", "dc1", "ba1", "cf1", "ft1"));
        String before = look(x);
        due("a gives to b already", x.meet(1, 0, 2), false);
        due("a gives to b already, as told", x.meet(2, 4, 0), false);
        due("all are one", x.meet(2, 2, 2), false);
        due("a is b", x.meet(0, 0, 2), false);
        due("a is c", x.meet(2, 4, 2), false);
        due("b is c", x.meet(0, 2, 2), false);
        due("a is a BOX", x.meet(3, 0, 2), false);
        due("b is a BOX", x.meet(0, 3, 2), false);
        due("c is a BOX", x.meet(0, 1, 3), false);
        due("c KNOWS a alone", x.meet(0, 4, 1), false);
        due("c KNOWS b alone", x.meet(4, 0, 1), false);
        due("c KNOWS neither", x.meet(0, 1, 4), false);
        for (int stranger : strangers(7)) {
            due("a is " + stranger, x.meet(stranger, 1, 2), false);
            due("b is " + stranger, x.meet(0, stranger, 2), false);
            due("c is " + stranger, x.meet(0, 1, stranger), false);
        }
        dueSame("nothing was done", look(x), before);
        ChalkChain y = told(calm("a", "b", "c") + one("f", 0, 9, 0, 0) + kind("t", "blind", 9, 9)
                + gives("ca1", "cb1", "cf1", "ft1"));
        y.image(0);
        y.take(0);
        due("a is TAKEN", y.meet(0, 1, 2), false);
        due("b is TAKEN", y.meet(1, 0, 2), false);
        y.back(0);
        y.take(2);
        due("c is TAKEN", y.meet(0, 1, 2), false);
        y.back(0);
        y.take(4);
        y.day(1);
        due("f is GONE", y.one(3, 0), 2);
        due("a is GONE", y.meet(3, 0, 2), false);
        due("b is GONE", y.meet(0, 3, 2), false);
        y.back(0);
        due("f is THERE", y.meet(3, 0, 2), true);
        due("they have met", y.meet(3, 0, 2), false);
        // The one by whom they would meet is GONE.
        ChalkChain z = told(calm("c") + one("f", 0, 9, 0, 0) + calm("e") + kind("t", "blind", 9, 9) + gives("fc1", "fe1", "ft1"));
        z.image(1);
        z.take(3);
        z.day(1);
        due("c is GONE", z.meet(0, 2, 1), false);
        z.back(1);
        due("c is THERE", z.meet(0, 2, 1), true);
    }

    private static void one() {
        promise(19, "0 THERE, 1 TAKEN, 2 GONE, 1: the DAY on which he was (NONE if THERE), 2: whom he KNOWS now, as bits");
        ChalkChain x = told(one("a", 0, 9, 0, 0) + one("b", 0, 9, 0, 0) + gives("ab1"));
        int[][] ahead = {{0, NONE, 2}, {0, NONE, 1}};
        int[][] behind = {{1, 0, 2}, {2, 1, 1}};
        for (int one = 0; one < 2; one++) {
            for (int what = 0; what < 3; what++) {
                due("one(" + one + ", " + what + ") ahead", x.one(one, what), ahead[one][what]);
            }
        }
        x.take(0);
        x.day(1);
        for (int one = 0; one < 2; one++) {
            for (int what = 0; what < 3; what++) {
                due("one(" + one + ", " + what + ") behind", x.one(one, what), behind[one][what]);
            }
        }
        ChalkChain full = told(plain(LETTERS) + gives("la1"));
        due("the last of 12", full.one(11, 2), 1);
        due("whom the first of 12 KNOWS", full.one(0, 2), 2048);

        promise(19, "NONE if there is none such, or for another what.");
        for (int stranger : strangers(2)) {
            for (int what = 0; what < 3; what++) {
                due("one(" + stranger + ", " + what + ")", x.one(stranger, what), NONE);
            }
        }
        for (int what : wrong(3, 4, 32, 256)) {
            due("one(0, " + what + ")", x.one(0, what), NONE);
            due("one(2, " + what + ")", x.one(2, what), NONE);
        }
        due("an empty CITY", new ChalkChain().one(0, 0), NONE);
        for (int stranger : strangers(12)) {
            due("one(" + stranger + ", 0) of 12", full.one(stranger, 0), NONE);
        }
    }

    private static void thing() {
        promise(20, "(-2 LOST, -3 it has COME), 1: the DAY on which it was SENT, 2: the DAY on which it was LOST or has COME (NONE),"
                + " 3: his NEXT (NONE), 4: the DAY on which that one has it (NONE)");
        ChalkChain x = told(calm("g", "s") + gives("gs2") + ENDS);
        x.day(1);
        x.send();
        dueThing("under way", x, 0, 0, 1, NONE, 1, 3);
        x.day(2);
        x.send();
        x.take(0);
        x.day(1);
        dueThing("COME", x, 0, -3, 1, 3, NONE, NONE);
        dueThing("LOST", x, 1, -2, 3, 4, NONE, NONE);

        promise(20, "-4 if there is none such, or for another what.");
        for (int thing : wrong(2, 3, 11, 12, 13, 32)) {
            for (int what = 0; what < 5; what++) {
                due("thing(" + thing + ", " + what + ")", x.thing(thing, what), -4);
            }
        }
        for (int what : wrong(5, 6, 32, 256)) {
            due("thing(0, " + what + ")", x.thing(0, what), -4);
            due("thing(2, " + what + ")", x.thing(2, what), -4);
        }
        ChalkChain empty = told(calm("g", "s") + gives("gs2") + ENDS);
        due("none was SENT", empty.thing(0, 0), -4);
        for (int i = 0; i < 12; i++) {
            due("the next one", empty.thing(i, 0), -4);
            empty.send();
            due("the one", empty.thing(i, 0), 0);
        }
        due("a 13th", empty.thing(12, 0), -4);
        due("of an empty CITY", new ChalkChain().thing(0, 0), -4);
    }

    private static void gapTerms() {
        terms("GAP: the fewest such acquaintances (a, b by some c who is THERE and KNOWS both as it is now) by which there is a WAY"
                + " over such as are THERE; of like WAYS by these that of fewest PEOPLE, then the first.");
        ChalkChain x = told(calm("g", "s", "a", "b") + gives("ga1", "ab1", "bs1") + ENDS);
        due("no acquaintance", x.gap(), 0);
        dueWay("no acquaintance", x, 0, 2, 3, 1);
        x.take(3);
        due("b is TAKEN, who alone KNOWS the SEA", x.gap(), NONE);
        ChalkChain y = told(calm("g", "s", "a", "c") + gives("cg1", "cs1", "ga1", "as1") + ENDS);
        y.take(2);
        due("one acquaintance, by c", y.gap(), 1);
        dueWay("one acquaintance, by c", y, 0, 1);
        y.take(3);
        due("c is TAKEN", y.gap(), NONE);
        // Three acquaintances in a row; those whom only these would make possible don't count as yet.
        ChalkChain z = told(calm("g", "s", "a", "b", "c", "d", "e") + gives("cg1", "ca1", "da1", "db1", "eb1", "es1") + ENDS);
        due("three acquaintances", z.gap(), 3);
        dueWay("three acquaintances", z, 0, 2, 3, 1);
        due("one is made", z.meet(0, 2, 4), true);
        due("two acquaintances", z.gap(), 2);
        due("another one is made", z.meet(2, 3, 5), true);
        due("one acquaintance", z.gap(), 1);
        due("the last one is made", z.meet(3, 1, 6), true);
        due("none is left", z.gap(), 0);
        dueWay("none is left", z, 0, 2, 3, 1);
        // Two WAYS of one acquaintance each: fewest PEOPLE, then the first.
        ChalkChain w = told(calm("g", "s", "a", "b", "c") + gives("cg1", "ca1", "cb1", "as1", "bs1") + ENDS);
        due("the first", w.gap(), 1);
        dueWay("the first", w, 0, 2, 1);
        ChalkChain v = told(calm("g", "s", "a", "b", "c") + gives("cg1", "ca1", "ab1", "bs1", "cb1") + ENDS);
        due("fewest PEOPLE", v.gap(), 1);
        dueWay("fewest PEOPLE", v, 0, 3, 1);
        // Over a BOX, which hands on though it KNOWS nobody.
        ChalkChain u = told(calm("g", "s") + box("a") + gives("ga1", "as1") + ENDS);
        due("over a BOX", u.gap(), 0);
        dueWay("over a BOX", u, 0, 2, 1);
        // Twelve in a row, of whom every second one makes his neighbours acquainted.
        StringBuilder row = new StringBuilder(calm(LETTERS));
        for (int i = 0; i < 12; i++) {
            row.append(i > 0 && i % 2 == 1 ? gives(LETTERS[i] + LETTERS[i - 1] + "1") : "");
            row.append(i < 11 && i % 2 == 1 ? gives(LETTERS[i] + LETTERS[i + 1] + "1") : "");
        }
        ChalkChain twelve = told(row + "from a;to k;");
        due("five acquaintances among twelve", twelve.gap(), 5);
        dueWay("five acquaintances among twelve", twelve, 0, 2, 4, 6, 8, 10);
        // The SEA is told first, the GATE last.
        ChalkChain r = told(calm("s", "c", "a", "g") + gives("cg1", "ca1", "as1") + ENDS);
        due("from the last to the first", r.gap(), 1);
        dueWay("from the last to the first", r, 3, 2, 0);
        // The GATE KNOWS both a and s: a is the one to meet the SEA.
        ChalkChain t = told(calm("g", "s", "a") + gives("sg1", "ga1") + ENDS);
        due("by the GATE itself", t.gap(), 1);
        dueWay("by the GATE itself", t, 0, 2, 1);
    }

    private static void dueNoGap(String call, ChalkChain x) {
        due(call, x.gap(), NONE);
        dueWay(call, x);
    }

    private static void gap() {
        promise(21, "NONE if it can't be closed, or there is no GATE, no SEA, or one of these is not THERE. The WAY lies there then"
                + " (behind NONE: none).");
        dueNoGap("an empty CITY", new ChalkChain());
        String both = calm("g", "s") + gives("gs1");
        dueNoGap("no GATE", told(both + "to s;"));
        dueNoGap("no SEA", told(both + "from g;"));
        dueNoGap("nobody gives", told(calm("g", "s") + ENDS));
        ChalkChain gate = told(both + ENDS);
        gate.quick();
        gate.take(0);
        dueNoGap("the GATE is TAKEN", gate);
        ChalkChain sea = told(both + ENDS);
        sea.quick();
        sea.take(1);
        dueNoGap("the SEA is TAKEN", sea);
        ChalkChain gone = told(one("g", 0, 9, 0, 0) + calm("s") + kind("t", "blind", 9, 9) + gives("gs1", "gt1") + ENDS);
        gone.take(2);
        due("the GATE is THERE", gone.gap(), 0);
        dueWay("the GATE is THERE", gone, 0, 1);
        gone.day(1);
        dueNoGap("the GATE is GONE", gone);
        ChalkChain one = told(calm("g") + "from g;to g;");
        due("both are one", one.gap(), 0);
        dueWay("both are one", one, 0);
        one.take(0);
        dueNoGap("both are one, TAKEN", one);
        ChalkChain barred = told(calm("g", "s", "a") + gives("ga1", "as1") + ENDS);
        due("it is closed", barred.gap(), 0);
        barred.take(2);
        barred.quick();
        dueNoGap("it can't be closed", barred);
    }

    private static void image() {
        promise(28, "is kept in a BOX of images 0 .. 2: the DAY; NONE if there is none such.");
        ChalkChain x = new ChalkChain();
        for (int box = 0; box < 3; box++) {
            due("image(" + box + ") of an empty CITY", x.image(box), 0);
        }
        tell(x, calm("g", "s") + gives("gs9") + ENDS);
        for (int box = 0; box < 3; box++) {
            x.day(1);
            due("image(" + box + ")", x.image(box), box + 1);
        }
        String before = look(x);
        for (int box : wrong(3, 4, 31, 32, 33, 34, 64, 256)) {
            due("image(" + box + ")", x.image(box), NONE);
        }
        dueSame("nothing was done", look(x), before);
        for (int box = 0; box < 3; box++) {
            due("each by itself: " + box, x.back(box), box + 1);
        }
        x.image(1);
        due("what was kept there is kept no more", x.back(1), 3);
        due("the one ahead stays", x.back(0), 1);
        due("the one behind stays", x.back(2), 3);
    }

    private static void notKept() {
        promise(28, "All in earnest (the DAY, PEOPLE, who met, THINGS) is kept");
        ChalkChain x = told(calm("g", "s", "a") + gives("gs1", "as1", "ag1") + ENDS);
        x.image(0);
        x.quick();
        x.later(7);
        x.late(1, 1);
        x.taken(0, 1);
        x.untell(0);
        x.feed(0, 0, 0, 0, 0);
        x.day(3);
        x.back(0);
        due("the DAY", x.about(4), 0);
        due("ENTRIES stay", x.about(6), 2);
        due("what is UNTOLD stays so", x.untell(0), false);
        due("the TIME stays", x.about(7), 7);
        due("the TAPE stays", x.about(8), 20);
        dueWay("the WAY stays", x, 0, 1);
        due("other images stay", x.image(2), 0);
        x.day(1);
        x.back(0);
        due("other images stay", x.back(2), 0);
    }

    private static void back() {
        promise(29, "All is as it was kept: the DAY");
        ChalkChain x = told(calm("g", "s", "a") + gives("ag1", "as1", "gs4") + ENDS);
        x.send();
        x.day(2);
        x.image(0);
        String kept = look(x);
        x.meet(1, 0, 2);
        x.send();
        x.take(2);
        x.day(30);
        due("back(0)", x.back(0), 2);
        dueSame("back(0)", look(x), kept);
        due("who met is as it was kept", x.meet(1, 0, 2), true);
        x.day(99);
        due("back(0) again", x.back(0), 2);
        dueSame("back(0) again", look(x), kept);

        // In BOX 1 one is TAKEN, one GONE, two have met and a THING was SENT on DAY 5; in BOX 2 nothing has been.
        ChalkChain y = told(calm("g", "s", "a", "b") + one("f", 0, 9, 0, 0) + kind("t", "blind", 9, 9)
                + gives("gs9", "ag1", "ab1", "ft1", "af1") + ENDS);
        y.image(2);
        String nothing = look(y);
        y.day(5);
        y.send();
        y.take(5);
        due("b and g meet", y.meet(3, 0, 2), true);
        y.day(1);
        y.image(1);
        kept = look(y);
        due("back(2)", y.back(2), 0);
        dueSame("back(2)", look(y), nothing);
        y.day(2);
        due("another THING", y.send(), 0);
        due("nobody flees", y.one(4, 0), 0);
        due("back(1)", y.back(1), 6);
        dueSame("back(1)", look(y), kept);
        due("TAKEN", y.one(5, 0), 1);
        due("GONE", y.one(4, 0), 2);
        due("SENT on DAY 5", y.thing(0, 1), 5);
        due("they have met", y.meet(3, 0, 2), false);

        promise(29, "NONE, doing nothing, if nothing was.");
        String before = look(x);
        for (int box : wrong(1, 2, 3, 4, 31, 32, 33, 64, 256)) {
            due("back(" + box + ")", x.back(box), NONE);
        }
        dueSame("nothing was done", look(x), before);
        ChalkChain fresh = new ChalkChain();
        for (int box = -1; box < 4; box++) {
            due("back(" + box + ") of a new object", fresh.back(box), NONE);
        }
        x.city();
        due("behind city()", x.back(0), NONE);
    }
}
