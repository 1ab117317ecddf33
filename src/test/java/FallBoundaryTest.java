/** The boundary cases of FALL and WORST: promises 13 and 14, with their terms. */
public final class FallBoundaryTest extends Boundary {
    private static final String[] LETTERS = "a b c d e f g h i j k l".split(" ");

    public static void main(String[] args) {
        takenThen();
        tellsAsLateAsHeHolds();
        boughtTellAtOnce();
        unlessTakenOrGone();
        onThatDayToo();
        severalOnOneDay();
        seesOnTheNextDay();
        soonest();
        takenTillThen();
        neverGone();
        longest();
        fall();
        noneSuch();
        ofLikeOnes();
        worst();
        close("FallBoundaryTest", 13, 14);
    }

    private static void takenThen() {
        terms("FALL of one (no BOX) on a DAY: he is TAKEN then.");
        for (String kind : new String[] {"", "blind", "bought"}) {
            ChalkChain x = told(kind("a", kind, 0, 9));
            due("a " + kind + " one alone", x.fall(0, 0, 0), 0);
            due("a " + kind + " one alone, GONE", x.fall(0, 0, 1), NONE);
        }
        ChalkChain y = told(plain(LETTERS));
        due("the last of 12", y.fall(11, 11, 0), 0);
        due("another one who does not KNOW him", y.fall(11, 0, 0), NONE);
        due("another one who does not KNOW him, GONE", y.fall(11, 0, 1), NONE);
    }

    private static void tellsAsLateAsHeHolds() {
        terms("Who was TAKEN tells as many DAYS later as he holds");
        for (int holds = 0; holds <= 9; holds++) {
            ChalkChain x = told(one("a", 0, holds, 0, 0) + calm("b") + gives("ab1"));
            due("a giver holds " + holds, x.fall(0, 1, 0), holds);
            tell(x, one("a", 0, holds, 0, 0) + calm("b") + gives("ba1"));
            due("another one holds " + holds, x.fall(0, 1, 0), holds);
            tell(x, kind("a", "blind", 0, holds) + calm("b") + gives("ba1"));
            due("a BLIND one tells of nobody", x.fall(0, 1, 0), NONE);
        }
    }

    private static void boughtTellAtOnce() {
        terms("(BOUGHT: at once) whom he KNOWS");
        for (int holds = 0; holds <= 9; holds++) {
            ChalkChain x = told(kind("a", "bought", 0, holds) + calm("b") + gives("ab1"));
            due("he holds " + holds, x.fall(0, 1, 0), 0);
        }
    }

    private static void unlessTakenOrGone() {
        terms("these are TAKEN on that DAY, if they were not, and are not GONE");
        // b is told of on DAY 1 by a, and on DAY 3 by c, who was TAKEN by a too.
        ChalkChain x = told(one("a", 0, 1, 0, 0) + one("b", 9, 9, 0, 0) + one("c", 9, 2, 0, 0) + gives("ab1", "ac1", "cb1"));
        due("told of twice", x.fall(0, 1, 0), 1);
        due("who was TAKEN first", x.fall(0, 0, 0), 0);
        // b is GONE on DAY 2; a tells on DAY 3.
        ChalkChain y = told(one("a", 0, 3, 0, 0) + one("b", 1, 9, 0, 0) + gives("ab1"));
        due("GONE ahead", y.fall(0, 1, 0), NONE);
        due("GONE ahead", y.fall(0, 1, 1), 2);
    }

    private static void onThatDayToo() {
        terms("(and tell on that DAY too, if they hold 0 or are BOUGHT)");
        StringBuilder row = new StringBuilder(one("a", 9, 4, 0, 0));
        for (int i = 1; i < 12; i++) {
            row.append(i % 2 == 0 ? one(LETTERS[i], 9, 0, 0, 0) : kind(LETTERS[i], "bought", 9, 9));
        }
        for (int i = 1; i < 12; i++) {
            row.append(gives(LETTERS[i - 1] + LETTERS[i] + "1"));
        }
        ChalkChain x = told(row.toString());
        for (int i = 1; i < 12; i++) {
            due(i + " in a row", x.fall(0, i, 0), 4);
        }
        due("from the other end", x.fall(11, 0, 0), 0);
        ChalkChain y = told(one("a", 9, 4, 0, 0) + one("b", 9, 1, 0, 0) + calm("c") + gives("ab1", "bc1"));
        due("who holds 1 tells a DAY later", y.fall(0, 2, 0), 5);
        StringBuilder slowly = new StringBuilder();
        for (int i = 0; i < 12; i++) {
            slowly.append(one(LETTERS[i], 9, 1, 0, 0));
        }
        for (int i = 1; i < 12; i++) {
            slowly.append(gives(LETTERS[i - 1] + LETTERS[i] + "1"));
        }
        ChalkChain z = told(slowly.toString());
        for (int i = 0; i < 12; i++) {
            due("one on each DAY: " + i, z.fall(0, i, 0), i);
        }
    }

    private static void severalOnOneDay() {
        terms("these are TAKEN on that DAY");
        // a tells at once of b and c, both of whom hold 3 and tell of one more each.
        ChalkChain x = told(plain("a") + one("b", 9, 3, 0, 0) + one("c", 9, 3, 0, 0) + calm("d", "e")
                + gives("ab1", "ac1", "bd1", "ce1"));
        due("told by the one", x.fall(0, 3, 0), 3);
        due("told by the other", x.fall(0, 4, 0), 3);
        due("all of them", x.worst(1), 5);
        // b and c both see that a is TAKEN.
        ChalkChain y = told(kind("a", "blind", 0, 9) + one("b", 2, 9, 0, 0) + one("c", 2, 9, 0, 0) + gives("ba1", "ca1"));
        due("GONE, the one", y.fall(0, 1, 1), 3);
        due("GONE, the other", y.fall(0, 2, 1), 3);
    }

    private static void seesOnTheNextDay() {
        terms("Who KNOWS one who was TAKEN sees it on the next DAY, and is GONE as many DAYS behind that as he is slow");
        for (int slow = 0; slow <= 9; slow++) {
            ChalkChain x = told(kind("a", "blind", 0, 9) + one("b", slow, 0, 0, 0) + gives("ba1"));
            due("slow " + slow, x.fall(0, 1, 1), slow + 1);
            due("slow " + slow, x.fall(0, 1, 0), NONE);
            tell(x, one("a", 0, 9, 0, 0) + kind("b", "blind", slow, 0) + gives("ab1"));
            due("who does not KNOW him sees nothing", x.fall(0, 1, 1), NONE);
        }
    }

    private static void soonest() {
        terms("(by whom it is soonest");
        // c KNOWS a, TAKEN on DAY 0, and b, TAKEN on DAY 2.
        String people = one("a", 0, 2, 0, 0) + kind("b", "bought", 0, 9);
        ChalkChain x = told(people + kind("c", "", 0, 0) + gives("ab1", "ca1"));
        due("by a alone", x.fall(0, 2, 1), 1);
        ChalkChain y = told(kind("a", "blind", 0, 2) + kind("b", "blind", 9, 9) + one("c", 4, 0, 0, 0) + gives("ab1", "cb1", "ca1"));
        due("b", y.fall(0, 1, 0), 2);
        due("by a, though b is TAKEN too", y.fall(0, 2, 1), 5);
        due("by b, if he falls first", y.fall(1, 2, 1), 5);
        ChalkChain z = told(kind("a", "blind", 0, 2) + kind("b", "blind", 9, 9) + one("c", 4, 0, 0, 0) + gives("ab1", "cb1"));
        due("by b alone", z.fall(0, 2, 1), 7);
    }

    private static void takenTillThen() {
        terms("if he is not TAKEN till then (on that DAY, too)");
        for (int holds = 0; holds <= 9; holds++) {
            for (int slow = 0; slow <= 9; slow++) {
                ChalkChain x = told(one("a", 0, holds, 0, 0) + one("b", slow, 9, 0, 0) + gives("ab1"));
                boolean taken = holds <= slow + 1;
                due("holds " + holds + ", slow " + slow + ": TAKEN", x.fall(0, 1, 0), taken ? holds : NONE);
                due("holds " + holds + ", slow " + slow + ": GONE", x.fall(0, 1, 1), taken ? NONE : slow + 1);
            }
        }
    }

    private static void neverGone() {
        terms("BOUGHT ones, a BOX are never GONE");
        ChalkChain x = told(kind("a", "blind", 0, 9) + kind("b", "bought", 0, 0) + box("c") + plain("d")
                + gives("ba1", "ca1", "da1"));
        due("BOUGHT", x.fall(0, 1, 1), NONE);
        due("BOUGHT, TAKEN", x.fall(0, 1, 0), NONE);
        due("BOX", x.fall(0, 2, 1), NONE);
        due("BOX, TAKEN", x.fall(0, 2, 0), NONE);
        due("PLAIN", x.fall(0, 3, 1), 1);
        x.take(0);
        x.day(99);
        due("BOUGHT, in earnest", x.one(1, 0), 0);
        due("BOX, in earnest", x.one(2, 0), 0);
        due("PLAIN, in earnest", x.one(3, 0), 2);
    }

    private static String row(int slowOfLast) {
        StringBuilder all = new StringBuilder();
        for (int i = 0; i < 12; i++) {
            all.append(one(LETTERS[i], i == 11 ? slowOfLast : 9, 9, 0, 0));
        }
        for (int i = 1; i < 12; i++) {
            all.append(gives(LETTERS[i - 1] + LETTERS[i] + "1"));
        }
        return all.toString();
    }

    private static void longest() {
        promise(13, "the DAY on which another one (or he) is TAKEN (what 0) or GONE (1) (NONE if not)");
        for (int slow = 0; slow <= 9; slow++) {
            ChalkChain x = told(row(slow));
            boolean taken = slow >= 8;
            due("the last of 12, slow " + slow, x.fall(0, 11, 0), taken ? 99 : NONE);
            due("the last of 12, slow " + slow, x.fall(0, 11, 1), taken ? NONE : 91 + slow);
        }
        // The last one KNOWS one who is TAKEN on DAY 90, and nobody tells of him.
        StringBuilder all = new StringBuilder();
        for (int i = 0; i < 11; i++) {
            all.append(kind(LETTERS[i], "blind", 9, 9));
        }
        all.append(one("l", 9, 9, 0, 0));
        for (int i = 1; i < 11; i++) {
            all.append(gives(LETTERS[i - 1] + LETTERS[i] + "1"));
        }
        ChalkChain y = told(all + gives("lk1"));
        due("TAKEN on 90", y.fall(0, 10, 0), 90);
        due("GONE on 100", y.fall(0, 11, 1), 100);
    }

    private static void fall() {
        promise(13, "FALL of one on DAY 0");
        ChalkChain x = told(one("a", 0, 2, 0, 0) + calm("b") + gives("ab1"));
        x.day(5);
        x.take(1);
        x.day(3);
        due("whatever DAY it is", x.fall(0, 1, 0), 2);
        due("whoever is TAKEN", x.fall(1, 1, 0), 0);
        ChalkChain y = told(one("a", 9, 1, 0, 0) + calm("b", "c") + gives("ca1", "cb1"));
        due("they meet", y.meet(0, 1, 2), true);
        due("as told, by c", y.fall(0, 1, 0), 10);
        String before = look(y);
        y.fall(0, 1, 0);
        dueSame("nobody is TAKEN by asking", look(y), before);
    }

    private static void noneSuch() {
        promise(13, "-2 if there is none such, or he is a BOX, or for another what.");
        for (int people : new int[] {1, 2, 12}) {
            StringBuilder text = new StringBuilder();
            for (int i = 0; i < people; i++) {
                text.append(plain(LETTERS[i]));
            }
            ChalkChain x = told(text.toString());
            for (int stranger : strangers(people)) {
                due("fall(" + stranger + ", 0, 0) of " + people, x.fall(stranger, 0, 0), -2);
                due("fall(0, " + stranger + ", 1) of " + people, x.fall(0, stranger, 1), -2);
                due("fall of both " + stranger, x.fall(stranger, stranger, 0), -2);
            }
            for (int what : wrong(2, 3, 32, 256)) {
                due("fall(0, 0, " + what + ")", x.fall(0, 0, what), -2);
            }
        }
        due("an empty CITY", new ChalkChain().fall(0, 0, 0), -2);
        ChalkChain y = told(box("a") + plain("b") + gives("ab1", "ba1"));
        for (int what = 0; what < 2; what++) {
            due("of a BOX", y.fall(0, 1, what), -2);
            due("of a BOX, he", y.fall(0, 0, what), -2);
            due("another one is a BOX", y.fall(1, 0, what), NONE);
        }
        due("of a BOX, another what", y.fall(0, 1, 2), -2);
        due("another one is a BOX, another what", y.fall(1, 0, 2), -2);
    }

    private static void ofLikeOnes() {
        terms("WORST: the one by whose FALL most are TAKEN (with him); of like ones the first.");
        ChalkChain x = told(plain("a"));
        due("one alone", x.worst(0), 0);
        due("with him", x.worst(1), 1);
        tell(x, plain(LETTERS));
        due("all alike", x.worst(0), 0);
        due("all alike", x.worst(1), 1);
        tell(x, row(9));
        due("all of 12", x.worst(0), 0);
        due("all of 12", x.worst(1), 12);
        tell(x, kind("a", "blind", 9, 0) + kind("b", "blind", 9, 0) + kind("c", "blind", 9, 0) + gives("cb1", "ba1"));
        due("the last alone", x.worst(0), 2);
        due("the last alone", x.worst(1), 3);
        tell(x, plain("a", "b", "c", "d", "e") + gives("bc1", "de1"));
        due("the first of two like ones", x.worst(0), 1);
        due("the first of two like ones", x.worst(1), 2);
        // Who is GONE is not TAKEN: a tells too late of b.
        tell(x, one("a", 0, 5, 0, 0) + one("b", 0, 1, 0, 0) + gives("ab1"));
        due("GONE ones don't count", x.worst(0), 1);
        due("GONE ones don't count", x.worst(1), 2);
    }

    private static void worst() {
        promise(14, "NONE without any but BOXES, or for another what.");
        ChalkChain x = new ChalkChain();
        due("an empty CITY: who", x.worst(0), NONE);
        due("an empty CITY: how many", x.worst(1), NONE);
        tell(x, box("a") + box("b") + gives("ab1"));
        due("BOXES alone: who", x.worst(0), NONE);
        due("BOXES alone: how many", x.worst(1), NONE);
        tell(x, box("a") + box("b") + plain("c"));
        due("one beside BOXES: who", x.worst(0), 2);
        due("one beside BOXES: how many", x.worst(1), 1);
        for (int what : wrong(2, 3, 32, 256)) {
            due("worst(" + what + ")", x.worst(what), NONE);
        }
    }
}
