import java.util.List;

/** The boundary cases of the text: what the terms say of a CITY, and promises 1 to 5. */
public final class TextBoundaryTest extends Boundary {
    private static final List<String> OWN_WORDS = List.of("one", "blind", "bought", "box", "slow", "holds", "risk",
            "keeps", "gives", "takes", "from", "to", "luck");
    private static final String[] LETTERS = "a b c d e f g h i j k l".split(" ");

    public static void main(String[] args) {
        calls();
        newObject();
        mostBytes();
        words();
        numbers();
        signsAndBlanks();
        asLongAsCanBe();
        letterBehindNumber();
        ownWords();
        mostPeople();
        ranges();
        plainIfNotTold();
        mostGives();
        takes();
        onceFromOneToAnother();
        asTold();
        gateSeaLuck();
        places();
        leastAtOnePlace();
        noToken();
        cannotStandThere();
        tooMany();
        toldAlready();
        numbersThatCannotBe();
        nobodyHas();
        feed();
        end();
        city();
        cityAnew();
        cityWithFault();
        fault();
        close("TextBoundaryTest", 1, 2, 3, 4, 5);
    }

    private static void dueSound(String text, int people) {
        ChalkChain x = new ChalkChain();
        due("city() of " + text, Check.tell(x, text), people);
        due("fault(0) of " + text, x.fault(0), 0);
        due("fault(1) of " + text, x.fault(1), NONE);
    }

    private static void dueFault(String text, int fault, int place) {
        ChalkChain x = new ChalkChain();
        due("city() of " + text, Check.tell(x, text), NONE);
        due("fault(0) of " + text, x.fault(0), fault);
        due("fault(1) of " + text, x.fault(1), place);
    }

    private static void calls() {
        head("An object is used for at most 512 calls after it has been made");
        ChalkChain x = new ChalkChain();
        String text = plain("a", "b") + gives("ab3") + "from a;to b;";
        Check.tell(x, text);
        int calls = (text.length() + 19) / 20 + 2;
        for (; calls < 511; calls++) {
            due("call " + calls, x.about(calls % 4), calls % 4 == 0 ? 2 : calls % 4 == 2 ? 0 : 1);
        }
        due("the 512th call", x.quick(), 3);
    }

    private static void newObject() {
        promise(1, "An empty CITY.");
        ChalkChain x = new ChalkChain();
        int[] about = {0, 0, NONE, NONE, 0, 0, 0, 0, 0, 0, 0, 0};
        for (int what = 0; what < about.length; what++) {
            due("about(" + what + ")", x.about(what), about[what]);
        }
        due("knows(0)", x.knows(0), NONE);
        due("quick()", x.quick(), NONE);
        due("safe(0)", x.safe(0), NONE);
        due("cheap()", x.cheap(), NONE);
        due("apart()", x.apart(), 0);
        due("cut()", x.cut(), 0);
        due("fall(0, 0, 0)", x.fall(0, 0, 0), -2);
        due("worst(0)", x.worst(0), NONE);
        due("send()", x.send(), NONE);
        due("take(0)", x.take(0), NONE);
        due("meet(0, 1, 2)", x.meet(0, 1, 2), false);
        due("one(0, 0)", x.one(0, 0), NONE);
        due("thing(0, 0)", x.thing(0, 0), -4);
        due("gap()", x.gap(), NONE);
        due("back(0)", x.back(0), NONE);
        due("city()", x.city(), 0);
        due("NONE", ChalkChain.NONE, -1);
    }

    private static void mostBytes() {
        terms("A CITY is a text of at most 1,600 bytes (empty at first)");
        dueSound("", 0);
        dueSound(" ".repeat(1600), 0);
        dueSound("\n".repeat(1599), 0);
        String blanks = " ".repeat(1593);
        dueSound(blanks + "luck 9;", 0);
        dueFault(blanks + "luck 9 ", 2, 1600);
        dueFault(blanks + "luck 9", 2, 1599);
        dueFault(" ".repeat(1599) + "?", 1, 1599);
        dueFault(" ".repeat(1599) + "a", 2, 1599);
        dueFault(" ".repeat(1591) + "abcdefghi", 1, 1591);
        dueFault(" ".repeat(1595) + "12345", 1, 1595);
    }

    private static void words() {
        terms("words (a .. z, 8 at most)");
        for (String name : new String[] {"a", "z", "abcdefgh", "ijklmnop", "qrstuvwx", "yz"}) {
            dueSound(plain(name) + "from " + name + ";", 1);
        }
        dueFault(plain("abcdefghi"), 1, 4);
        dueFault("one abcdefgh abcdefghi", 1, 13);
        dueFault("abcdefghi", 1, 0);
        dueFault("a".repeat(40), 1, 0);
        dueFault(plain("abcdefgh") + "from abcdefg;", 5, plain("abcdefgh").length() + 5);
        dueFault(plain("abcdefgh") + "from abcdefgi;", 5, plain("abcdefgh").length() + 5);
        dueFault("`", 1, 0);
        dueFault("{", 1, 0);
        dueFault("A", 1, 0);
        dueFault("Z", 1, 0);
    }

    private static void numbers() {
        terms("N (1 to 4 digits)");
        dueSound("luck 9;", 0);
        dueSound("luck 09;", 0);
        dueSound("luck 009;", 0);
        dueSound("luck 0009;", 0);
        dueSound("one a slow 0009 holds 0009 risk 0099 keeps 0999;", 1);
        dueFault("luck 00009;", 1, 5);
        dueFault("luck 00000;", 1, 5);
        dueFault("luck 4294967297;", 1, 5);
        dueFault("luck " + "0".repeat(60) + "1;", 1, 5);
        dueFault("luck 9999;", 4, 5);
        dueFault("luck /;", 1, 5);
        dueFault("luck :;", 1, 5);
        dueFault("luck -1;", 1, 5);
    }

    private static boolean isLetter(int sign) {
        return sign >= 'a' && sign <= 'z';
    }

    private static boolean isDigit(int sign) {
        return sign >= '0' && sign <= '9';
    }

    private static void signsAndBlanks() {
        terms("the sign ; ; blanks (32, 10) part them or not");
        for (int sign = 0; sign < 256; sign++) {
            String text = Character.toString((char) sign);
            boolean blank = sign == 32 || sign == 10;
            boolean token = sign == ';' || isLetter(sign) || isDigit(sign);
            if (blank) {
                dueSound(text, 0);
                dueFault("one a" + text, 2, 6);
                dueFault("luck 1" + text, 2, 7);
            } else {
                dueFault(text, token ? 2 : 1, 0);
                dueFault("one a" + text, token ? 2 : 1, isLetter(sign) ? 6 : 5);
                if (sign == ';') {
                    dueSound("luck 1" + text, 0);
                } else if (isDigit(sign)) {
                    dueFault("luck 1" + text, 4, 5);
                } else {
                    dueFault("luck 1" + text, 1, isLetter(sign) ? 5 : 6);
                }
            }
        }
        dueSound("one a slow0 holds0 risk0 keeps0;luck9;from a;to a;", 1);
        dueSound("\n \none\n\n a  slow 0 \n holds\n0\nrisk 0 keeps 0 \n ; ", 1);
    }

    private static void asLongAsCanBe() {
        terms("each is as long as can be");
        dueFault("onea", 2, 0);
        dueFault("luckluck 1;", 2, 0);
        dueSound(plain("oneone", "tobox", "boxes", "on", "t", "lucky", "slo"), 7);
        dueFault("one a boxslow 0", 2, 6);
        dueSound("one a slow 0 holds 0 risk 99 keeps 999;", 1);
        dueFault("luck 19;", 4, 5);
    }

    private static void letterBehindNumber() {
        terms("no letter directly behind an N");
        dueFault("luck 9a;", 1, 5);
        dueFault("luck 9z;", 1, 5);
        dueFault("luck 0009x;", 1, 5);
        dueFault("7a", 1, 0);
        dueFault("one a slow 0holds 0 risk 0 keeps 0;", 1, 11);
        dueFault("one a slow 0 holds 0risk 0 keeps 0;", 1, 19);
        dueFault("one a slow 0 holds 0 risk 0keeps 0;", 1, 26);
        dueFault(plain("a", "b") + "gives a b takes 1x;", 1, plain("a", "b").length() + 16);
        dueSound("luck 9 ;", 0);
        dueFault("one a9;", 2, 5);
    }

    private static void ownWords() {
        terms("Words that stand for themselves here are no NAMES.");
        String two = plain("a", "b");
        int at = two.length();
        for (String word : OWN_WORDS) {
            dueFault("one " + word + " slow 0 holds 0 risk 0 keeps 0;", 2, 4);
            dueFault(two + "gives " + word + " b takes 1;", 2, at + 6);
            dueFault(two + "gives a " + word + " takes 1;", 2, at + 8);
            dueFault(two + "from " + word + ";", 2, at + 5);
            dueFault(two + "to " + word + ";", 2, at + 3);
            String longer = word + "s";
            dueSound(plain(longer) + "from " + longer + ";to " + longer + ";", 1);
            String shorter = word.substring(1);
            dueSound(plain(shorter) + "from " + shorter + ";to " + shorter + ";", 1);
        }
        dueSound(plain("plain", "gate", "sea", "city", "name", "none"), 6);
    }

    private static void mostPeople() {
        terms("At most 12 PEOPLE");
        String twelve = plain(LETTERS);
        dueSound(twelve, 12);
        dueSound(plain("a"), 1);
        dueFault(twelve + "one m slow 0 holds 0 risk 0 keeps 0;", 2, twelve.length());
        dueFault(twelve + "one", 2, twelve.length());
        dueFault(twelve + "one a", 2, twelve.length());
        dueFault(twelve + "luck 1; one m", 2, twelve.length() + 8);
        due("the last one can be told of", told(twelve + "from l;to l;").about(2), 11);
    }

    private static void ranges() {
        terms("(slow 0 .. 9, holds 0 .. 9, risk 0 .. 99, keeps 0 .. 999;");
        String[] words = {"slow", "holds", "risk", "keeps"};
        int[] most = {9, 9, 99, 999};
        for (int i = 0; i < 4; i++) {
            for (int value : new int[] {0, 1, most[i] - 1, most[i], most[i] + 1, 1000, 9999}) {
                StringBuilder line = new StringBuilder("one a");
                int place = 0;
                for (int j = 0; j < 4; j++) {
                    line.append(' ').append(words[j]).append(' ');
                    place = i == j ? line.length() : place;
                    line.append(i == j ? value : 0);
                }
                if (value <= most[i]) {
                    dueSound(line + ";", 1);
                } else {
                    dueFault(line + ";", 4, place);
                }
            }
        }
    }

    private static void plainIfNotTold() {
        terms("PLAIN, if no kind is told)");
        ChalkChain x = told(one("a", 0, 1, 0, 0) + one("b", 1, 2, 0, 0) + one("c", 0, 0, 0, 0) + gives("ab1", "bc1"));
        due("no BLIND: he KNOWS the giver", x.knows(1), 1 + 4);
        due("no BOUGHT: he tells as late as he holds", x.fall(0, 1, 0), 1);
        due("no BOUGHT: he is GONE", x.fall(0, 2, 1), 2);
        due("no BOX: he can be TAKEN", x.take(0), 1);
        tell(x, kind("a", "blind", 0, 1) + kind("b", "bought", 0, 1) + box("c") + one("d", 0, 1, 0, 0) + gives("da1", "db1", "dc1"));
        due("behind others of a kind: he KNOWS", x.knows(3), 1 + 2);
        due("behind others of a kind: he is no BOX", x.take(3), 1);
    }

    private static String gaveOften(int lines) {
        StringBuilder all = new StringBuilder(plain(LETTERS));
        int many = 0;
        for (int i = 0; i < 12 && many < lines; i++) {
            for (int j = 0; j < 12 && many < lines; j++) {
                if (i != j) {
                    all.append(gives(LETTERS[i] + LETTERS[j] + "9"));
                    many++;
                }
            }
        }
        return all.toString();
    }

    private static void mostGives() {
        terms("30 gives lines (two unlike PEOPLE told ahead");
        due("none", told(gaveOften(0)).about(1), 0);
        due("29", told(gaveOften(29)).about(1), 29);
        due("30", told(gaveOften(30)).about(1), 30);
        String thirty = gaveOften(30);
        dueFault(gaveOften(31), 2, thirty.length());
        dueFault(thirty + "gives", 2, thirty.length());
        dueFault(thirty + "gives a b takes 1;", 2, thirty.length());
        dueFault(thirty + "gives z z takes 1;", 2, thirty.length());
        String two = plain("a", "b");
        dueFault(two + "gives a a takes 1;", 3, two.length() + 8);
        dueFault("gives a b takes 1;" + two, 5, 6);
        dueFault(plain("a") + "gives a b takes 1;" + plain("b"), 5, plain("a").length() + 8);
        dueSound(plain("b", "a") + "gives a b takes 1;" + plain("c"), 3);
    }

    private static void takes() {
        terms("takes 1 .. 9");
        String two = plain("a", "b");
        for (int days = 1; days <= 9; days++) {
            due("takes " + days, told(two + "gives a b takes " + days + ";from a;to b;").quick(), days);
        }
        for (int days : new int[] {0, 10, 11, 99, 9999}) {
            dueFault(two + "gives a b takes " + days + ";", 4, two.length() + 16);
        }
        dueFault(two + "gives a b takes 0000;", 4, two.length() + 16);
        dueSound(two + "gives a b takes 0001;", 2);
    }

    private static void onceFromOneToAnother() {
        terms("from one to another one once)");
        String two = plain("a", "b", "c");
        dueSound(two + gives("ab1", "ba1", "ac1", "bc1"), 3);
        dueFault(two + gives("ab1", "ba1", "ab1"), 3, two.length() + 2 * 18 + 8);
        dueFault(two + gives("ab1", "ab2"), 3, two.length() + 18 + 8);
    }

    private static void asTold() {
        terms("numbered as told");
        ChalkChain x = told(plain("z", "m", "a") + gives("az1", "zm1") + "from a;to m;");
        due("the GATE", x.about(2), 2);
        due("the SEA", x.about(3), 1);
        due("whom the first KNOWS", x.knows(0), 2 + 4);
    }

    private static void gateSeaLuck() {
        terms("from (the GATE), to (the SEA), each of a ONE told ahead, luck (0 .. 9; 0 if not told) once each.");
        String two = plain("a", "b");
        int at = two.length();
        dueFault("from a;" + two, 5, 5);
        dueFault("to a;" + two, 5, 3);
        dueFault(two + "from a;from a;", 2, at + 7);
        dueFault(two + "from a;from b;", 2, at + 7);
        dueFault(two + "to b;to a;", 2, at + 5);
        dueFault(two + "to b;luck 0;to b;", 2, at + 12);
        dueFault("luck 0;luck 0;", 2, 7);
        dueFault("luck 3;" + two + "luck 3;", 2, 7 + at);
        dueSound(two + "to a;from a;luck 0;", 2);
        due("no GATE", told(two + "to a;").about(2), NONE);
        due("no SEA", told(two + "from a;").about(3), NONE);
        for (int luck = 0; luck <= 9; luck++) {
            ChalkChain x = told("luck " + luck + ";");
            due("up to luck " + luck, x.late(0, luck), 0);
            due("up to luck " + luck, x.spies(0, 0), 1);
            x.late(0, luck + 1);
            due("above luck " + luck, x.spies(0, 0), 0);
        }
        dueFault("luck 10;", 4, 5);
        ChalkChain x = told("luck 9;");
        tell(x, two);
        x.late(0, 1);
        due("luck that is not told", x.spies(0, 0), 0);
    }

    private static void places() {
        terms("FAULTS, the first by its place (bytes from 0; the end: the text's length)");
        dueFault("?", 1, 0);
        dueFault("\n ?", 1, 2);
        dueFault("luck 10;?", 4, 5);
        dueFault("luck ?;luck 10;", 1, 5);
        dueFault("from a;luck 99;", 5, 5);
        dueFault("gives a a", 5, 6);
        dueFault("one", 2, 3);
        dueFault("one ", 2, 4);
        dueFault("one \n \n", 2, 7);
        dueFault("one a", 2, 5);
        dueFault("luck 1", 2, 6);
        dueFault("luck 1;from", 2, 11);
        ChalkChain x = new ChalkChain();
        x.feed(0x6C75636B, 0x20313B3F, 0x3F3F3F3F, 0x3F3F3F3F, 0x3F3F3F3F);
        x.end(6);
        due("the end is that of the TAPE", x.city(), NONE);
        due("the end is that of the TAPE", x.fault(0), 2);
        due("the end is that of the TAPE", x.fault(1), 6);
    }

    private static void leastAtOnePlace() {
        terms("at one place the least");
        dueFault("one ?", 1, 4);
        dueFault("luck 10x;", 1, 5);
        dueFault("luck 99999;", 1, 5);
        dueFault("from abcdefghi;", 1, 5);
        dueFault("from one;", 2, 5);
        dueFault("from 10;", 2, 5);
        dueFault("luck a;", 2, 5);
        String full = gaveOften(30);
        dueFault(full + "gives", 2, full.length());
    }

    private static void noToken() {
        terms("1 no TOKEN");
        String two = plain("a", "b");
        String whole = two + "gives a b takes 1;from a;to b;luck 1;";
        for (int at = 0; at <= whole.length(); at++) {
            // A word that is parted in two would be another word, and that one the first FAULT.
            boolean inWord = at > 0 && at < whole.length() && isLetter(whole.charAt(at - 1)) && isLetter(whole.charAt(at));
            if (!inWord) {
                dueFault(whole.substring(0, at) + "\t" + whole.substring(at), 1, at);
            }
        }
    }

    /** Puts each TOKEN there is at each place of a line; those that may stand there are told for each place. */
    private static void dueOnly(String ahead, String line, String... mayStand) {
        String before = ahead;
        String[] tokens = line.split(" ");
        for (int i = 0; i < tokens.length; i++) {
            List<String> may = List.of(mayStand[i].split(" "));
            for (String word : OWN_WORDS) {
                if (!may.contains(word)) {
                    dueFault(before + word, 2, before.length());
                }
            }
            if (!may.contains("NAME")) {
                dueFault(before + "a", 2, before.length());
                dueFault(before + "zz", 2, before.length());
            }
            if (!may.contains("N")) {
                dueFault(before + "1", 2, before.length());
            }
            if (!may.contains(";")) {
                dueFault(before + ";", 2, before.length());
            }
            if (i > 0) {
                dueFault(before, 2, before.length());
            }
            before = before + tokens[i] + (i + 1 < tokens.length ? " " : "");
        }
        dueSound(before, told(before).about(0));
    }

    private static void cannotStandThere() {
        terms("2 one that can't stand there");
        String first = "one gives from to luck";
        String two = plain("a", "b");
        for (String kind : new String[] {"blind", "bought", "box"}) {
            dueOnly(two, "one c " + kind + " slow 1 holds 2 risk 3 keeps 4 ;", first, "NAME", "blind bought box slow",
                    "slow", "N", "holds", "N", "risk", "N", "keeps", "N", ";");
        }
        dueOnly(two, "one c slow 1 holds 2 risk 3 keeps 4 ;", first, "NAME", "blind bought box slow", "N", "holds", "N",
                "risk", "N", "keeps", "N", ";");
        dueOnly(two, "gives a b takes 1 ;", first, "NAME", "NAME", "takes", "N", ";");
        dueOnly(two, "from a ;", first, "NAME", ";");
        dueOnly(two, "to a ;", first, "NAME", ";");
        dueOnly("", "luck 1 ;", first, "N", ";");
        dueFault("luck 1;;", 2, 7);
    }

    private static void tooMany() {
        terms("(one of a sort too many or a second time: at the line's first word)");
        String full = gaveOften(30) + "from a;to b;luck 1;";
        for (String line : new String[] {"one", "gives", "from", "to", "luck"}) {
            dueFault(full + line, 2, full.length());
            dueFault(full + " \n" + line + " ?", 2, full.length() + 2);
        }
    }

    private static void toldAlready() {
        terms("3 a NAME told already; who gives to himself, or does so already (at the second NAME)");
        String two = plain("a", "b");
        int at = two.length();
        dueFault(two + "one a", 3, at + 4);
        dueFault(two + "one b box slow 0 holds 0 risk 0 keeps 0;", 3, at + 4);
        dueFault(plain("abcdefgh", "abcdefgi", "abcdefgh"), 3, plain("abcdefgh", "abcdefgi").length() + 4);
        dueFault(two + "gives a a", 3, at + 8);
        dueFault(two + "gives b   b", 3, at + 10);
        dueFault(two + "gives a b takes 9;gives a b", 3, at + 18 + 8);
        dueFault(two + "gives a b takes 9;gives b a takes 1;gives b a", 3, at + 36 + 8);
        dueSound(plain("a", "aa", "aaa", "aaaaaaaa"), 4);
    }

    private static void numbersThatCannotBe() {
        terms("4 a number that can't be");
        String two = plain("a", "b");
        dueFault("luck 10", 4, 5);
        dueFault("luck 010", 4, 5);
        dueFault("one a slow 10", 4, 11);
        dueFault("one a box slow 10", 4, 15);
        dueFault("one a slow 0 holds 10", 4, 19);
        dueFault("one a slow 0 holds 0 risk 100", 4, 26);
        dueFault("one a slow 0 holds 0 risk 0 keeps 1000", 4, 34);
        dueFault(two + "gives a b takes 0", 4, two.length() + 16);
        dueFault(two + "gives a b takes 10", 4, two.length() + 16);
    }

    private static void nobodyHas() {
        terms("5 a NAME that nobody has");
        String two = plain("a", "b");
        int at = two.length();
        dueFault("from a;", 5, 5);
        dueFault("to a;", 5, 3);
        dueFault(two + "gives c a takes 1;", 5, at + 6);
        dueFault(two + "gives a c takes 1;", 5, at + 8);
        dueFault(two + "gives c c takes 1;", 5, at + 6);
        dueFault(two + "from aa;", 5, at + 5);
        dueFault(two + "to ab;", 5, at + 3);
        ChalkChain x = told(plain("c"));
        due("a NAME of the CITY ahead", Check.tell(x, two + "from c;"), NONE);
        due("a NAME of the CITY ahead", x.fault(0), 5);
    }

    private static ChalkChain fed(int times) {
        ChalkChain x = new ChalkChain();
        for (int i = 0; i < times; i++) {
            x.feed(0x20202020, 0x20202020, 0x20202020, 0x20202020, 0x20202020);
        }
        return x;
    }

    private static void feed() {
        promise(2, "Twenty bytes come behind those on the TAPE, of each number the highest first: how many there are");
        ChalkChain x = new ChalkChain();
        for (int i = 1; i <= 80; i++) {
            due("feed " + i, x.feed(0x20202020, 0x0A0A0A0A, 0x20202020, 0x20202020, 0x20202020), 20 * i);
        }
        String text = "luck 9;    luck 8;  ";
        for (int at = 0; at < 20; at++) {
            ChalkChain y = new ChalkChain();
            Check.put(y, text.substring(0, 7).concat(" ".repeat(13)).getBytes());
            int[] n = new int[5];
            for (int i = 0; i < 20; i++) {
                n[i / 4] = n[i / 4] << 8 | (i == at ? '?' : ' ');
            }
            due("a sign at " + at, y.feed(n[0], n[1], n[2], n[3], n[4]), 40);
            y.city();
            due("a sign at " + at, y.fault(1), 20 + at);
        }
        ChalkChain z = new ChalkChain();
        due("numbers below 0", z.feed(-1, Integer.MIN_VALUE, -1, -1, Integer.MAX_VALUE), 20);
        z.city();
        due("numbers below 0", z.fault(0), 1);
        due("numbers below 0", z.fault(1), 0);

        promise(2, "NONE, and nothing comes, if there would be more than 1,600.");
        due("1,600 and 20", x.feed(0x3F3F3F3F, 0, 0, 0, 0), NONE);
        due("1,600 and 20: bytes", x.about(8), 1600);
        due("1,600 and 20, again", x.feed(0x3F3F3F3F, 0, 0, 0, 0), NONE);
        due("1,600 and 20: the text stays", x.city(), 0);
        for (int n = 1581; n < 1600; n++) {
            ChalkChain y = fed(80);
            y.end(n);
            due(n + " and 20", y.feed(0x3F3F3F3F, 0, 0, 0, 0), NONE);
            due(n + " and 20: bytes", y.about(8), n);
            due(n + " and 20: the text stays", y.city(), 0);
        }
        ChalkChain y = fed(80);
        y.end(1580);
        due("1,580 and 20", y.feed(0, 0, 0, 0, 0x3F3F3F3F), 1600);
    }

    private static void end() {
        promise(3, "The TAPE has its first n bytes: n");
        for (int n : new int[] {0, 1, 19, 20, 1580, 1599, 1600}) {
            ChalkChain x = fed(80);
            due("end(" + n + ")", x.end(n), n);
            due("end(" + n + "): bytes", x.about(8), n);
            due("end(" + n + ") again", x.end(n), n);
        }
        due("end(0) of none", new ChalkChain().end(0), 0);
        ChalkChain x = new ChalkChain();
        Check.put(x, "luck 9;luck 9;".getBytes());
        x.end(7);
        due("behind n there is nothing", x.city(), 0);
        due("behind city there is nothing", x.end(1), NONE);

        promise(3, "NONE, doing nothing, if it has not so many, or n is below 0.");
        for (int times : new int[] {0, 1, 80}) {
            ChalkChain y = fed(times);
            for (int n : wrong(20 * times + 1, 20 * times + 20, 1601, 1620)) {
                due("end(" + n + ") of " + 20 * times, y.end(n), NONE);
            }
            due("bytes stay", y.about(8), 20 * times);
            due("the text stays", y.city(), 0);
        }
        ChalkChain z = fed(2);
        z.end(7);
        due("end(8) of 7", z.end(8), NONE);
        due("end(20) of 7", z.end(20), NONE);
        due("end(40) of 7", z.end(40), NONE);
        due("bytes stay", z.about(8), 7);
    }

    /** A CITY in which all that city() forgets is there. */
    private static ChalkChain busy() {
        ChalkChain x = told(calm("g", "s", "a", "b") + gives("gs3", "ag1", "as1", "ab1") + "from g;to s;luck 2;");
        x.later(5);
        x.image(0);
        x.quick();
        x.send();
        x.day(1);
        x.meet(1, 3, 2);
        x.take(2);
        x.send();
        x.late(1, 1);
        x.taken(2, 1);
        x.image(1);
        x.image(2);
        x.day(2);
        return x;
    }

    private static void city() {
        promise(4, "The TAPE (empty then) is the CITY (DAY 0, nobody TAKEN, no THINGS, who met is forgotten, ENTRIES are"
                + " none, BOXES of images are empty, no WAY lies there then; the TIME stays): how many PEOPLE");
        ChalkChain x = busy();
        String same = calm("g", "s", "a", "b") + gives("gs3", "ag1", "as1", "ab1") + "from g;to s;luck 2;";
        due("how many", Check.tell(x, same), 4);
        int[] about = {4, 4, 0, 1, 0, 0, 0, 5, 0, 0, 0, 0};
        for (int what = 0; what < about.length; what++) {
            due("about(" + what + ")", x.about(what), about[what]);
        }
        for (int one = 0; one < 4; one++) {
            due("nobody is TAKEN: " + one, x.one(one, 0), 0);
            due("nobody is TAKEN: " + one, x.one(one, 1), NONE);
            due("who met is forgotten: " + one, x.one(one, 2), x.knows(one));
        }
        for (int box = 0; box < 3; box++) {
            due("back(" + box + ")", x.back(box), NONE);
        }
        due("no THINGS", x.thing(0, 0), -4);
        due("no ENTRIES", x.untell(0), false);
        due("no WAY", x.lies(0), NONE);
        due("they can meet anew", x.meet(1, 3, 2), true);
        due("an empty TAPE", x.city(), 0);
        due("an empty TAPE: PEOPLE", x.about(0), 0);
        due("an empty TAPE: the TIME", x.about(7), 5);
        due("an empty TAPE: the GATE", x.about(2), NONE);
    }

    /** Of a CITY, or of a text with a FAULT, nothing is left in the next one, nor in the one behind that. */
    private static void cityAnew() {
        promise(4, "The TAPE (empty then) is the CITY");
        String full = box("a") + kind("b", "bought", 9, 9) + one("c", 9, 0, 9, 9) + gives("ab1", "bc1", "ca1", "cb1", "ac1")
                + "from a;to c;luck 9;";
        String bare = one("a", 0, 5, 0, 0) + one("b", 0, 5, 0, 0) + one("c", 0, 5, 0, 0);
        for (String ahead : new String[] {full, full + "?"}) {
            ChalkChain x = told(full);
            tell(x, full);
            Check.tell(x, ahead);
            tell(x, bare + gives("ab1"));
            tell(x, bare + gives("ab1"));
            due("gives lines", x.about(1), 1);
            due("the GATE", x.about(2), NONE);
            due("the SEA", x.about(3), NONE);
            due("apart", x.apart(), 0);
            due("who gives", x.knows(2), 0);
            due("no BOX any more", x.fall(0, 0, 0), 0);
            due("no BOUGHT one any more: he is GONE", x.fall(0, 1, 1), 1);
            due("he holds 5 now", x.take(2), 1);
            x.late(7, 1);
            due("no luck any more", x.spies(0, 0), 3);
            tell(x, bare + gives("ab1", "bc1") + "from a;to c;");
            due("a WAY as told now", x.apart(), 1);
            due("a CUT as told now", x.cut(), 2);
            due("QUICK as told now", x.quick(), 2);
        }
    }

    private static void cityWithFault() {
        promise(4, "NONE: a FAULT (all stays)");
        String[] texts = {"?", plain("z") + "one", plain("g", "s") + "from g;to s;luck 10;", "luck 9;luck", plain("q") + "to g;"};
        for (String text : texts) {
            ChalkChain x = busy();
            String before = look(x);
            due("city() of " + text, Check.tell(x, text), NONE);
            dueSame("all behind " + text, look(x), before);
            due("the TAPE behind " + text, x.about(8), 0);
            due("who met stays behind " + text, x.meet(1, 3, 0), false);
            due("the image of DAY 1 stays behind " + text, x.back(1), 1);
            due("the image of DAY 0 stays behind " + text, x.back(0), 0);
            due("quick() stays behind " + text, x.quick(), 3);
        }
        ChalkChain empty = new ChalkChain();
        due("ahead of any CITY", Check.tell(empty, plain("a", "b") + "?"), NONE);
        due("ahead of any CITY: PEOPLE", empty.about(0), 0);
    }

    private static void fault() {
        promise(5, "Of the latest city() what 0: its FAULT (0), 1: its place (NONE).");
        ChalkChain x = new ChalkChain();
        due("ahead of any city(): fault(0)", x.fault(0), 0);
        due("ahead of any city(): fault(1)", x.fault(1), NONE);
        String[] texts = {"luck ?", "one", plain("a", "a"), "luck 10;", "from a;"};
        int[] place = {5, 3, plain("a").length() + 4, 5, 5};
        for (int i = 0; i < 5; i++) {
            Check.tell(x, texts[i]);
            due("fault(0) of " + texts[i], x.fault(0), i + 1);
            due("fault(1) of " + texts[i], x.fault(1), place[i]);
            x.feed(0, 0, 0, 0, 0);
            x.end(0);
            due("fault(0) behind feed and end", x.fault(0), i + 1);
        }
        Check.tell(x, "luck 1;");
        due("fault(0) of a sound text", x.fault(0), 0);
        due("fault(1) of a sound text", x.fault(1), NONE);
        Check.tell(x, "?");
        due("fault(1) at the text's first byte", x.fault(1), 0);

        promise(5, "NONE for another what.");
        for (int what : wrong(2, 3, 32, 256)) {
            due("fault(" + what + ")", x.fault(what), NONE);
        }
    }
}
