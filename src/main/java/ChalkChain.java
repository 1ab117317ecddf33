import java.util.Arrays;

/**
 * A chain of strangers in a city under a ban. DOC.md says what every call answers; its words in
 * capitals (PEOPLE, WAY, TAKEN ..) mean here what they mean there.
 *
 * Every row is made in the constructor and used again, so that no later call makes an object.
 */
public final class ChalkChain {
    public static final int NONE = -1;

    private static final int MOST_BYTES = 1600;
    private static final int BYTES_A_FEED = 20;
    private static final int MOST_PEOPLE = 12;
    private static final int MOST_PAIRS = MOST_PEOPLE * MOST_PEOPLE;
    private static final int MOST_GIVES = 30;
    private static final int MOST_THINGS = 12;
    private static final int MOST_ENTRIES = 40;
    private static final int MOST_DAYS = 99;
    private static final int LAST_DAY = 1000;
    private static final int MOST_LATER = 1000;
    private static final int LAST_TIME = 100000;
    private static final int MOST_SPIES = 3;
    private static final int IMAGE_BOXES = 3;

    private static final int PLAIN = 0;
    private static final int BLIND = 1;
    private static final int BOUGHT = 2;
    private static final int BOX = 3;

    private static final int THERE = 0;
    private static final int TAKEN = 1;
    private static final int GONE = 2;

    private static final int LOST = -2;
    private static final int COME = -3;
    private static final int NO_ANSWER = -2;
    private static final int NO_THING = -4;

    private final byte[] tape;
    private int bytes;
    private final Reader reader;
    private City told;
    private City draft;
    private final Falls falls;
    private final Router router;
    private final Earnest now;
    private final Earnest[] images;
    private int imagesKept;
    private final Entries entries;

    public ChalkChain() {
        tape = new byte[MOST_BYTES];
        reader = new Reader();
        told = new City();
        draft = new City();
        falls = new Falls();
        router = new Router();
        now = new Earnest();
        images = new Earnest[IMAGE_BOXES];
        for (int box = 0; box < IMAGE_BOXES; box++) {
            images[box] = new Earnest();
        }
        entries = new Entries();
    }

    public int feed(int a, int b, int c, int d, int e) {
        if (bytes + BYTES_A_FEED > MOST_BYTES) {
            return NONE;
        }
        put(a);
        put(b);
        put(c);
        put(d);
        put(e);
        return bytes;
    }

    public int end(int n) {
        if (n < 0 || n > bytes) {
            return NONE;
        }
        bytes = n;
        return n;
    }

    public int city() {
        boolean sound = reader.read(tape, bytes, draft);
        bytes = 0;
        if (!sound) {
            return NONE;
        }
        City before = told;
        told = draft;
        draft = before;
        falls.reckon(told);
        router.forget();
        now.begin(told);
        imagesKept = 0;
        entries.forget();
        return told.people;
    }

    public int fault(int what) {
        if (what == 0) {
            return reader.fault;
        }
        return what == 1 ? reader.place : NONE;
    }

    public int knows(int one) {
        return told.has(one) ? told.known[one] : NONE;
    }

    public int quick() {
        router.stepByDays(told);
        long days = router.layLeast(told);
        return days == Router.NO_WAY ? NONE : (int) days;
    }

    public long safe(int part) {
        if (part != 0 && part != 1) {
            router.forget();
            return NONE;
        }
        router.stepByOdds(told);
        long odds = router.layLikeliest(told);
        if (odds == Router.NO_WAY) {
            return NONE;
        }
        long shared = commonDivisor(Router.CERTAIN, odds);
        if (shared < 1) {
            return NONE;
        }
        return (part == 0 ? odds : Router.CERTAIN) / shared;
    }

    public int cheap() {
        router.stepByKeeps(told);
        long keeps = router.layLeast(told);
        return keeps == Router.NO_WAY ? NONE : (int) keeps;
    }

    public int lies(int i) {
        return i >= 0 && i < router.length ? router.way[i] : NONE;
    }

    public int apart() {
        if (!told.hasEnds()) {
            return 0;
        }
        if (told.gate == told.sea) {
            return 1;
        }
        // As many WAYS share nobody as the fewest BETWEEN whose loss bars all (Menger); the WAY
        // without any BETWEEN, which no loss bars, is left out of that and counted by itself.
        int barred = leastBar(told.between(), true);
        int direct = told.gives(told.gate, told.sea) ? 1 : 0;
        return direct + (barred == NONE ? 0 : Integer.bitCount(barred));
    }

    public int cut() {
        return told.hasEnds() ? leastBar(told.between() & ~told.boxes, false) : 0;
    }

    public int fall(int one, int other, int what) {
        if (!told.has(one) || !told.has(other) || told.isBox(one)) {
            return NO_ANSWER;
        }
        if (what == 0) {
            return falls.takenOn[pair(one, other)];
        }
        return what == 1 ? falls.goneOn[pair(one, other)] : NO_ANSWER;
    }

    public int worst(int what) {
        if (what != 0 && what != 1) {
            return NONE;
        }
        int who = NONE;
        int most = NONE;
        for (int one = 0; one < told.people; one++) {
            if (!told.isBox(one) && falls.howMany[one] > most) {
                most = falls.howMany[one];
                who = one;
            }
        }
        return what == 0 ? who : most;
    }

    public int send() {
        return now.dispatch(told);
    }

    public int day(int days) {
        if (days < 0 || days > MOST_DAYS || now.today + days > LAST_DAY) {
            return NONE;
        }
        for (int i = 0; i < days; i++) {
            now.pass(told);
        }
        return now.today;
    }

    public int take(int one) {
        if (!told.has(one) || told.isBox(one) || !now.fate.isThere(one)) {
            return NONE;
        }
        return now.fate.seize(told, now.known, 1 << one, now.today);
    }

    public boolean meet(int a, int b, int c) {
        if (!told.has(a) || !told.has(b) || !told.has(c)) {
            return false;
        }
        if (!now.canMeet(a, b, c)) {
            return false;
        }
        now.acquaint(a, b);
        return true;
    }

    public int one(int one, int what) {
        if (!told.has(one)) {
            return NONE;
        }
        switch (what) {
            case 0:
                return now.fate.stateOf(one);
            case 1:
                return now.fate.since[one];
            case 2:
                return now.known[one];
            default:
                return NONE;
        }
    }

    public int thing(int thing, int what) {
        if (thing < 0 || thing >= now.things.count) {
            return NO_THING;
        }
        switch (what) {
            case 0:
                return now.things.holder[thing];
            case 1:
                return now.things.sent[thing];
            case 2:
                return now.things.ended[thing];
            case 3:
                return now.things.next[thing];
            case 4:
                return now.things.due[thing];
            default:
                return NO_THING;
        }
    }

    public int gap() {
        if (!told.hasEnds() || !now.fate.isThere(told.gate) || !now.fate.isThere(told.sea)) {
            router.forget();
            return NONE;
        }
        router.stepByAcquaintances(told, now);
        long few = router.layLeast(told);
        return few == Router.NO_WAY ? NONE : (int) few;
    }

    public int late(int people, int days) {
        if ((people & ~told.everybody()) != 0) {
            return NONE;
        }
        return entries.tell(Entries.NOBODY, people, days);
    }

    public int taken(int one, int day) {
        if (!told.has(one) || told.isBox(one)) {
            return NONE;
        }
        return entries.tell(one, 0, day);
    }

    public boolean untell(int entry) {
        return entries.withdraw(entry);
    }

    public int later(int by) {
        if (by < 0 || by > MOST_LATER || entries.time + by > LAST_TIME) {
            return NONE;
        }
        entries.time += by;
        return entries.time;
    }

    public int spies(int what, int k) {
        if (what < 0 || what > 2) {
            return NONE;
        }
        int sets = 0;
        int inAll = told.everybody();
        int inAny = 0;
        for (int set = 0; set <= told.everybody(); set++) {
            if ((set & told.boxes) == 0 && Integer.bitCount(set) <= MOST_SPIES
                    && entries.explainedBy(set, told.luck, k)) {
                sets++;
                inAll &= set;
                inAny |= set;
            }
        }
        if (what == 0 || sets == 0) {
            return sets;
        }
        return what == 1 ? inAll : inAny;
    }

    public int origins(int what, int k) {
        if (what < 0 || what > 2) {
            return NONE;
        }
        int many = 0;
        int who = 0;
        int first = NONE;
        for (int one = 0; one < told.people; one++) {
            int start = told.isBox(one) ? NONE : entries.startOf(falls, one, k);
            if (start != NONE) {
                many += start == Entries.ANY_DAY ? MOST_DAYS + 1 : 1;
                who |= 1 << one;
                int firstDay = start == Entries.ANY_DAY ? 0 : start;
                first = first == NONE ? 100 * one + firstDay : first;
            }
        }
        if (what == 0) {
            return many;
        }
        return what == 1 ? who : first;
    }

    public int image(int box) {
        if (box < 0 || box >= IMAGE_BOXES) {
            return NONE;
        }
        images[box].copy(now);
        imagesKept |= 1 << box;
        return now.today;
    }

    public int back(int box) {
        if (box < 0 || box >= IMAGE_BOXES || !isIn(imagesKept, box)) {
            return NONE;
        }
        now.copy(images[box]);
        return now.today;
    }

    public int about(int what) {
        switch (what) {
            case 0:
                return told.people;
            case 1:
                return told.givesLines;
            case 2:
                return told.gate;
            case 3:
                return told.sea;
            case 4:
                return now.today;
            case 5:
                return now.things.count;
            case 6:
                return entries.count;
            case 7:
                return entries.time;
            case 8:
                return bytes;
            case 9:
                return router.length;
            case 10:
                return now.things.howMany(COME);
            case 11:
                return now.things.howMany(LOST);
            default:
                return NONE;
        }
    }

    private void put(int number) {
        for (int shift = 24; shift >= 0 && bytes < MOST_BYTES; shift -= 8) {
            tape[bytes] = (byte) (number >> shift);
            bytes++;
        }
    }

    /** The least of the smallest sets out of these without whom there is no WAY; NONE if there is none. */
    private int leastBar(int candidates, boolean withoutDirect) {
        if (told.hasWay(candidates, withoutDirect)) {
            return NONE;
        }
        for (int size = 0; size < MOST_PEOPLE; size++) {
            for (int set = 0; set <= candidates; set++) {
                if ((set & ~candidates) == 0 && Integer.bitCount(set) == size
                        && !told.hasWay(set, withoutDirect)) {
                    return set;
                }
            }
        }
        return NONE;
    }

    private static long commonDivisor(long a, long b) {
        // Euclid needs fewer than 100 rounds for any two longs.
        for (int round = 0; round < 100 && b != 0; round++) {
            long rest = a % b;
            a = b;
            b = rest;
        }
        return a;
    }

    private static int pair(int one, int other) {
        return one * MOST_PEOPLE + other;
    }

    private static boolean isIn(int set, int one) {
        return (set >> one & 1) != 0;
    }

    /** A CITY as told. */
    private static final class City {
        int people;
        int givesLines;
        int gate = NONE;
        int sea = NONE;
        int luck;
        final long[] names = new long[MOST_PEOPLE];
        final int[] kind = new int[MOST_PEOPLE];
        final int[] slow = new int[MOST_PEOPLE];
        final int[] holds = new int[MOST_PEOPLE];
        final int[] risk = new int[MOST_PEOPLE];
        final int[] keeps = new int[MOST_PEOPLE];
        /** By pair(giver, other): the DAYS that it takes; 0 where nobody gives. */
        final int[] takes = new int[MOST_PAIRS];
        final int[] receivers = new int[MOST_PEOPLE];
        final int[] known = new int[MOST_PEOPLE];
        int boxes;
        int prompt;
        int steadfast;

        void clear() {
            people = 0;
            givesLines = 0;
            gate = NONE;
            sea = NONE;
            luck = 0;
            Arrays.fill(takes, 0);
        }

        boolean has(int one) {
            return one >= 0 && one < people;
        }

        boolean hasEnds() {
            return has(gate) && has(sea);
        }

        boolean isBox(int one) {
            return isIn(boxes, one);
        }

        boolean gives(int one, int other) {
            return takes[pair(one, other)] > 0;
        }

        int everybody() {
            return (1 << people) - 1;
        }

        int between() {
            return everybody() & ~(1 << gate) & ~(1 << sea);
        }

        int called(long name) {
            for (int one = 0; one < people; one++) {
                if (names[one] == name) {
                    return one;
                }
            }
            return NONE;
        }

        /** Reckons what follows from the lines, once all have been read. */
        void settle() {
            boxes = 0;
            prompt = 0;
            steadfast = 0;
            for (int one = 0; one < people; one++) {
                receivers[one] = 0;
                known[one] = 0;
                boxes |= kind[one] == BOX ? 1 << one : 0;
                prompt |= kind[one] == BOUGHT || holds[one] == 0 ? 1 << one : 0;
                steadfast |= kind[one] == BOUGHT || kind[one] == BOX ? 1 << one : 0;
            }
            for (int one = 0; one < people; one++) {
                for (int other = 0; other < people; other++) {
                    if (gives(one, other)) {
                        receivers[one] |= 1 << other;
                        introduce(one, other);
                    }
                }
            }
        }

        private void introduce(int giver, int other) {
            if (isBox(giver) || isBox(other)) {
                return;
            }
            known[giver] |= 1 << other;
            if (kind[other] != BLIND) {
                known[other] |= 1 << giver;
            }
        }

        /** Whether there is a WAY over none of the barred; GATE and SEA stand. */
        boolean hasWay(int barred, boolean withoutDirect) {
            int open = everybody() & ~barred;
            int reached = 1 << gate;
            int fresh = reached;
            for (int round = 0; round < MOST_PEOPLE && fresh != 0 && !isIn(reached, sea); round++) {
                int onward = 0;
                for (int one = 0; one < people; one++) {
                    if (isIn(fresh, one)) {
                        onward |= receivers[one];
                    }
                }
                if (round == 0 && withoutDirect) {
                    onward &= ~(1 << sea);
                }
                fresh = onward & open & ~reached;
                reached |= fresh;
            }
            return isIn(reached, sea);
        }
    }

    /** Parts a text into TOKENS. */
    private static final class Lexer {
        static final int ONE = 0;
        static final int SLOW = 4;
        static final int HOLDS = 5;
        static final int RISK = 6;
        static final int KEEPS = 7;
        static final int GIVES = 8;
        static final int TAKES = 9;
        static final int FROM = 10;
        static final int TO = 11;
        static final int LUCK = 12;
        static final int NAME = 13;
        static final int NUMBER = 14;
        static final int SIGN = 15;
        static final int END = 16;
        static final int NO_TOKEN = 17;

        private static final int MOST_LETTERS = 8;
        private static final int MOST_DIGITS = 4;
        /** The letters of: one blind bought box slow holds risk keeps gives takes from to luck. */
        private static final long[] OWN_WORDS = {
            0x6F6E65L, 0x626C696E64L, 0x626F75676874L, 0x626F78L, 0x736C6F77L, 0x686F6C6473L,
            0x7269736BL, 0x6B65657073L, 0x6769766573L, 0x74616B6573L, 0x66726F6DL, 0x746FL,
            0x6C75636BL,
        };

        private byte[] text;
        private int length;
        private int at;
        int token = END;
        int place;
        long word;
        int number;

        void open(byte[] newText, int newLength) {
            text = newText;
            length = newText == null ? 0 : Math.min(newLength, newText.length);
            at = 0;
            advance();
        }

        void advance() {
            while (at < length && (text[at] == 32 || text[at] == 10)) {
                at++;
            }
            place = at;
            int letters = runOf('a', 'z');
            int digits = runOf('0', '9');
            if (at >= length) {
                token = END;
            } else if (letters > 0) {
                word = packed(letters);
                at += letters;
                token = letters > MOST_LETTERS ? NO_TOKEN : meaningOf(word);
            } else if (digits > 0) {
                number = valueOf(digits);
                at += digits;
                token = digits > MOST_DIGITS || runOf('a', 'z') > 0 ? NO_TOKEN : NUMBER;
            } else {
                token = text[at] == ';' ? SIGN : NO_TOKEN;
                at++;
            }
        }

        /** How many signs from least to most stand here in a row. */
        private int runOf(int least, int most) {
            int i = at;
            while (i < length && text[i] >= least && text[i] <= most) {
                i++;
            }
            return i - at;
        }

        private long packed(int letters) {
            long letterBytes = 0;
            for (int i = at; i < at + letters && i < length; i++) {
                letterBytes = letterBytes << 8 | text[i];
            }
            return letterBytes;
        }

        private int valueOf(int digits) {
            int value = 0;
            for (int i = at; i < at + digits && i < length; i++) {
                value = value * 10 + (text[i] - '0');
            }
            return value;
        }

        private static int meaningOf(long word) {
            for (int own = 0; own < OWN_WORDS.length; own++) {
                if (OWN_WORDS[own] == word) {
                    return own;
                }
            }
            return NAME;
        }
    }

    /** Reads a text into a CITY, up to its first FAULT. */
    private static final class Reader {
        private static final int NOT_A_TOKEN = 1;
        private static final int OUT_OF_PLACE = 2;
        private static final int AGAIN = 3;
        private static final int NO_SUCH_NUMBER = 4;
        private static final int UNKNOWN = 5;

        private final Lexer lexer = new Lexer();
        private City into;
        private boolean luckTold;
        int fault;
        int place = NONE;

        boolean read(byte[] text, int length, City city) {
            into = city;
            into.clear();
            luckTold = false;
            fault = 0;
            place = NONE;
            lexer.open(text, length);
            // A line has a byte at least.
            for (int line = 0; line <= MOST_BYTES && fault == 0 && lexer.token != Lexer.END; line++) {
                readLine();
            }
            if (fault == 0) {
                into.settle();
            }
            return fault == 0;
        }

        private void readLine() {
            int first = lexer.token;
            if (!mayBegin(first)) {
                refuse(OUT_OF_PLACE);
                return;
            }
            lexer.advance();
            switch (first) {
                case Lexer.ONE:
                    readOne();
                    break;
                case Lexer.GIVES:
                    readGives();
                    break;
                case Lexer.FROM:
                    into.gate = readKnown();
                    break;
                case Lexer.TO:
                    into.sea = readKnown();
                    break;
                default:
                    into.luck = readNumber(0, 9);
                    luckTold = true;
                    break;
            }
            pass(Lexer.SIGN);
        }

        private boolean mayBegin(int first) {
            switch (first) {
                case Lexer.ONE:
                    return into.people < MOST_PEOPLE;
                case Lexer.GIVES:
                    return into.givesLines < MOST_GIVES;
                case Lexer.FROM:
                    return into.gate == NONE;
                case Lexer.TO:
                    return into.sea == NONE;
                default:
                    return first == Lexer.LUCK && !luckTold;
            }
        }

        private void readOne() {
            if (lexer.token != Lexer.NAME) {
                refuse(OUT_OF_PLACE);
                return;
            }
            if (into.called(lexer.word) != NONE) {
                refuse(AGAIN);
                return;
            }
            int one = into.people;
            into.people++;
            into.names[one] = lexer.word;
            lexer.advance();
            into.kind[one] = PLAIN;
            if (lexer.token == BLIND || lexer.token == BOUGHT || lexer.token == BOX) {
                into.kind[one] = lexer.token;
                lexer.advance();
            }
            pass(Lexer.SLOW);
            into.slow[one] = readNumber(0, 9);
            pass(Lexer.HOLDS);
            into.holds[one] = readNumber(0, 9);
            pass(Lexer.RISK);
            into.risk[one] = readNumber(0, 99);
            pass(Lexer.KEEPS);
            into.keeps[one] = readNumber(0, 999);
        }

        private void readGives() {
            int giver = readKnown();
            if (fault != 0) {
                return;
            }
            int other = lexer.token == Lexer.NAME ? into.called(lexer.word) : NONE;
            if (other != NONE && (other == giver || into.gives(giver, other))) {
                refuse(AGAIN);
                return;
            }
            other = readKnown();
            pass(Lexer.TAKES);
            int days = readNumber(1, 9);
            if (fault == 0) {
                into.takes[pair(giver, other)] = days;
                into.givesLines++;
            }
        }

        private int readKnown() {
            if (fault != 0) {
                return NONE;
            }
            if (lexer.token != Lexer.NAME) {
                refuse(OUT_OF_PLACE);
                return NONE;
            }
            int one = into.called(lexer.word);
            if (one == NONE) {
                refuse(UNKNOWN);
                return NONE;
            }
            lexer.advance();
            return one;
        }

        private int readNumber(int least, int most) {
            if (fault != 0) {
                return 0;
            }
            if (lexer.token != Lexer.NUMBER) {
                refuse(OUT_OF_PLACE);
                return 0;
            }
            int number = lexer.number;
            if (number < least || number > most) {
                refuse(NO_SUCH_NUMBER);
                return 0;
            }
            lexer.advance();
            return number;
        }

        private void pass(int token) {
            if (fault != 0) {
                return;
            }
            if (lexer.token != token) {
                refuse(OUT_OF_PLACE);
                return;
            }
            lexer.advance();
        }

        private void refuse(int why) {
            fault = lexer.token == Lexer.NO_TOKEN ? NOT_A_TOKEN : why;
            place = lexer.place;
        }
    }

    /** Who is THERE, TAKEN or GONE, and since when. */
    private static final class Fate {
        int there;
        int seized;
        final int[] since = new int[MOST_PEOPLE];

        void clear(City city) {
            there = city.everybody();
            seized = 0;
            Arrays.fill(since, NONE);
        }

        void copy(Fate other) {
            there = other.there;
            seized = other.seized;
            System.arraycopy(other.since, 0, since, 0, MOST_PEOPLE);
        }

        boolean isThere(int one) {
            return isIn(there, one);
        }

        int stateOf(int one) {
            if (isThere(one)) {
                return THERE;
            }
            return isIn(seized, one) ? TAKEN : GONE;
        }

        /** All of these who are THERE are TAKEN, and whom they tell of at once: how many. */
        int seize(City city, int[] known, int these, int day) {
            int before = Integer.bitCount(seized);
            int fresh = these & there;
            // Each round takes one at least.
            for (int round = 0; round < MOST_PEOPLE && fresh != 0; round++) {
                seized |= fresh;
                remove(city, fresh, day);
                fresh = knownToAny(city, known, fresh & city.prompt) & there;
            }
            return Integer.bitCount(seized) - before;
        }

        /** Those who have held out till this DAY tell whom they KNOW. */
        void tellOn(City city, int[] known, int day) {
            int tellers = 0;
            for (int one = 0; one < city.people; one++) {
                if (isIn(seized & ~city.prompt, one) && since[one] + city.holds[one] == day) {
                    tellers |= 1 << one;
                }
            }
            seize(city, known, knownToAny(city, known, tellers), day);
        }

        /** Those who have seen in time that one whom they KNOW was TAKEN are GONE. */
        void fleeOn(City city, int[] known, int day) {
            int fleeing = 0;
            for (int one = 0; one < city.people; one++) {
                if (isIn(there & ~city.steadfast, one)
                        && sawBy(city, known[one] & seized, day - 1 - city.slow[one])) {
                    fleeing |= 1 << one;
                }
            }
            remove(city, fleeing, day);
        }

        private boolean sawBy(City city, int fallen, int day) {
            for (int one = 0; one < city.people && fallen != 0; one++) {
                if (isIn(fallen, one) && since[one] <= day) {
                    return true;
                }
            }
            return false;
        }

        private void remove(City city, int these, int day) {
            there &= ~these;
            for (int one = 0; one < city.people; one++) {
                if (isIn(these, one)) {
                    since[one] = day;
                }
            }
        }

        private static int knownToAny(City city, int[] known, int these) {
            int all = 0;
            for (int one = 0; one < city.people && these != 0; one++) {
                if (isIn(these, one)) {
                    all |= known[one];
                }
            }
            return all;
        }
    }

    /** The FALL of each one on DAY 0; on another DAY all of it comes so much later. */
    private static final class Falls {
        /** Behind the latest one TAKEN nobody tells after 9 DAYS, and nobody is GONE after 10. */
        private static final int QUIET_DAYS = 10;
        private static final int LAST_FALL_DAY = 120;

        final int[] takenOn = new int[MOST_PAIRS];
        final int[] goneOn = new int[MOST_PAIRS];
        final int[] howMany = new int[MOST_PEOPLE];
        private final Fate fate = new Fate();

        void reckon(City city) {
            Arrays.fill(takenOn, NONE);
            Arrays.fill(goneOn, NONE);
            Arrays.fill(howMany, 0);
            for (int one = 0; one < city.people; one++) {
                if (!city.isBox(one)) {
                    reckonOne(city, one);
                }
            }
        }

        private void reckonOne(City city, int one) {
            fate.clear(city);
            fate.seize(city, city.known, 1 << one, 0);
            int latest = 0;
            for (int day = 1; day <= LAST_FALL_DAY && day <= latest + QUIET_DAYS; day++) {
                int before = fate.seized;
                fate.tellOn(city, city.known, day);
                fate.fleeOn(city, city.known, day);
                latest = fate.seized == before ? latest : day;
            }
            howMany[one] = Integer.bitCount(fate.seized);
            for (int other = 0; other < city.people; other++) {
                int state = fate.stateOf(other);
                takenOn[pair(one, other)] = state == TAKEN ? fate.since[other] : NONE;
                goneOn[pair(one, other)] = state == GONE ? fate.since[other] : NONE;
            }
        }
    }

    /** Finds the best WAY by what its steps count, and holds the WAY that lies there. */
    private static final class Router {
        static final long NO_WAY = 4000000000000000000L;
        /** 100 to the 9th: the odds of a WAY of at most 9 BETWEEN are whole parts of it. */
        static final long CERTAIN = 1000000000000000000L;

        private static final int MOST_STEPS = MOST_PEOPLE - 1;
        private static final int MOST_SAFE_STEPS = 10;

        /** By pair: what the step counts; NONE where there is no step. */
        private final int[] step = new int[MOST_PAIRS];
        /** By steps left and where one is: the least that can be counted up to the SEA. */
        private final long[] best = new long[MOST_PAIRS];
        private boolean byOdds;
        final int[] way = new int[MOST_PEOPLE];
        int length;

        void forget() {
            length = 0;
        }

        void stepByDays(City city) {
            for (int i = 0; i < MOST_PAIRS; i++) {
                step[i] = city.takes[i] > 0 ? city.takes[i] : NONE;
            }
        }

        void stepByKeeps(City city) {
            for (int one = 0; one < city.people; one++) {
                for (int other = 0; other < city.people; other++) {
                    int keeps = other == city.sea ? 0 : city.keeps[other];
                    step[pair(one, other)] = city.gives(one, other) ? keeps : NONE;
                }
            }
        }

        void stepByOdds(City city) {
            for (int one = 0; one < city.people; one++) {
                for (int other = 0; other < city.people; other++) {
                    int odds = other == city.sea ? 100 : 100 - city.risk[other];
                    step[pair(one, other)] = city.gives(one, other) ? odds : NONE;
                }
            }
        }

        void stepByAcquaintances(City city, Earnest now) {
            for (int one = 0; one < city.people; one++) {
                for (int other = 0; other < city.people; other++) {
                    step[pair(one, other)] = now.acquaintancesFor(city, one, other);
                }
            }
        }

        long layLeast(City city) {
            byOdds = false;
            return lay(city, MOST_STEPS, 0);
        }

        /** While it is sought, odds are held below 0: the greatest are the least then. */
        long layLikeliest(City city) {
            byOdds = true;
            long odds = lay(city, MOST_SAFE_STEPS, -CERTAIN);
            return odds == NO_WAY ? NO_WAY : -odds;
        }

        /**
         * To go round in a ring never makes a row of PEOPLE count less, so the shortest of the least
         * rows has nobody twice and is a WAY: who was passed need not be remembered.
         */
        private long lay(City city, int mostSteps, long atSea) {
            length = 0;
            if (!city.hasEnds()) {
                return NO_WAY;
            }
            fillBest(city, mostSteps, atSea);
            long least = NO_WAY;
            int steps = 0;
            for (int left = 0; left <= mostSteps; left++) {
                if (best[pair(left, city.gate)] < least) {
                    least = best[pair(left, city.gate)];
                    steps = left;
                }
            }
            if (least != NO_WAY) {
                trace(city, steps);
            }
            return least;
        }

        private void fillBest(City city, int mostSteps, long atSea) {
            Arrays.fill(best, NO_WAY);
            best[city.sea] = atSea;
            for (int left = 1; left <= mostSteps; left++) {
                for (int one = 0; one < city.people; one++) {
                    if (one != city.sea) {
                        best[pair(left, one)] = leastOnward(city, left, one);
                    }
                }
            }
        }

        private long leastOnward(City city, int left, int one) {
            long least = NO_WAY;
            for (int other = 0; other < city.people; other++) {
                least = Math.min(least, onward(left, one, other));
            }
            return least;
        }

        private long onward(int left, int one, int other) {
            int count = step[pair(one, other)];
            long rest = best[pair(left - 1, other)];
            if (count == NONE || rest == NO_WAY) {
                return NO_WAY;
            }
            return byOdds ? rest / 100 * count : rest + count;
        }

        private void trace(City city, int steps) {
            int one = city.gate;
            way[0] = one;
            length = 1;
            for (int left = steps; left > 0; left--) {
                int next = firstBest(city, left, one);
                way[length] = next;
                length++;
                one = next;
            }
        }

        private int firstBest(City city, int left, int one) {
            for (int other = 0; other < city.people; other++) {
                if (onward(left, one, other) == best[pair(left, one)]) {
                    return other;
                }
            }
            return city.sea;
        }
    }

    /** The THINGS that were SENT. */
    private static final class Things {
        int count;
        final int[] holder = new int[MOST_THINGS];
        final int[] sent = new int[MOST_THINGS];
        final int[] ended = new int[MOST_THINGS];
        final int[] next = new int[MOST_THINGS];
        final int[] due = new int[MOST_THINGS];

        void copy(Things other) {
            count = other.count;
            System.arraycopy(other.holder, 0, holder, 0, MOST_THINGS);
            System.arraycopy(other.sent, 0, sent, 0, MOST_THINGS);
            System.arraycopy(other.ended, 0, ended, 0, MOST_THINGS);
            System.arraycopy(other.next, 0, next, 0, MOST_THINGS);
            System.arraycopy(other.due, 0, due, 0, MOST_THINGS);
        }

        int add(int today) {
            int thing = count;
            count++;
            sent[thing] = today;
            ended[thing] = NONE;
            return thing;
        }

        boolean isHeld(int thing) {
            return holder[thing] >= 0;
        }

        void giveTo(int thing, int one, City city, int today) {
            holder[thing] = one;
            next[thing] = NONE;
            due[thing] = NONE;
            if (one == city.sea) {
                finish(thing, COME, today);
            }
        }

        void finish(int thing, int how, int today) {
            holder[thing] = how;
            ended[thing] = today;
            next[thing] = NONE;
            due[thing] = NONE;
        }

        int howMany(int how) {
            int many = 0;
            for (int thing = 0; thing < count; thing++) {
                many += holder[thing] == how ? 1 : 0;
            }
            return many;
        }
    }

    /** All in earnest: the DAY, the PEOPLE, who met, the THINGS. */
    private static final class Earnest {
        private static final int FAR = 1000000;

        int today;
        final Fate fate = new Fate();
        final Things things = new Things();
        final int[] takes = new int[MOST_PAIRS];
        final int[] known = new int[MOST_PEOPLE];
        private final int[] toSea = new int[MOST_PEOPLE];

        void begin(City city) {
            today = 0;
            fate.clear(city);
            things.count = 0;
            System.arraycopy(city.takes, 0, takes, 0, MOST_PAIRS);
            System.arraycopy(city.known, 0, known, 0, MOST_PEOPLE);
        }

        void copy(Earnest other) {
            today = other.today;
            fate.copy(other.fate);
            things.copy(other.things);
            System.arraycopy(other.takes, 0, takes, 0, MOST_PAIRS);
            System.arraycopy(other.known, 0, known, 0, MOST_PEOPLE);
        }

        int dispatch(City city) {
            if (!city.has(city.gate) || !fate.isThere(city.gate) || things.count >= MOST_THINGS) {
                return NONE;
            }
            int thing = things.add(today);
            things.giveTo(thing, city.gate, city, today);
            if (things.isHeld(thing)) {
                measure(city);
                choose(city, thing);
            }
            return thing;
        }

        void pass(City city) {
            today++;
            handOn(city);
            fate.tellOn(city, known, today);
            fate.fleeOn(city, known, today);
            loseThings();
            chooseAnew(city);
        }

        private void handOn(City city) {
            for (int thing = 0; thing < things.count; thing++) {
                int next = things.next[thing];
                if (things.isHeld(thing) && next != NONE && things.due[thing] == today
                        && fate.isThere(things.holder[thing]) && fate.isThere(next)) {
                    things.giveTo(thing, next, city, today);
                }
            }
        }

        private void loseThings() {
            for (int thing = 0; thing < things.count; thing++) {
                if (things.isHeld(thing) && !fate.isThere(things.holder[thing])) {
                    things.finish(thing, LOST, today);
                }
            }
        }

        private void chooseAnew(City city) {
            boolean measured = false;
            for (int thing = 0; thing < things.count; thing++) {
                int next = things.next[thing];
                if (things.isHeld(thing) && (next == NONE || !fate.isThere(next))) {
                    if (!measured) {
                        measure(city);
                        measured = true;
                    }
                    choose(city, thing);
                }
            }
        }

        /** How many DAYS it takes from each to the SEA over such as are THERE. */
        private void measure(City city) {
            Arrays.fill(toSea, FAR);
            if (!city.has(city.sea) || !fate.isThere(city.sea)) {
                return;
            }
            toSea[city.sea] = 0;
            boolean nearer = true;
            for (int round = 0; round < MOST_PEOPLE && nearer; round++) {
                nearer = false;
                for (int one = 0; one < city.people; one++) {
                    int days = fate.isThere(one) ? leastBy(city, one) : FAR;
                    if (days < toSea[one]) {
                        toSea[one] = days;
                        nearer = true;
                    }
                }
            }
        }

        private int leastBy(City city, int one) {
            int least = FAR;
            for (int other = 0; other < city.people; other++) {
                least = Math.min(least, by(one, other));
            }
            return least;
        }

        /** How many DAYS it takes from one to the SEA if he gives to another one. */
        private int by(int one, int other) {
            int days = takes[pair(one, other)];
            return days > 0 && isIn(fate.there, other) ? days + toSea[other] : FAR;
        }

        private void choose(City city, int thing) {
            int one = things.holder[thing];
            int least = FAR;
            things.next[thing] = NONE;
            things.due[thing] = NONE;
            for (int other = 0; other < city.people; other++) {
                if (by(one, other) < least) {
                    least = by(one, other);
                    things.next[thing] = other;
                    things.due[thing] = today + takes[pair(one, other)];
                }
            }
        }

        /** A BOX KNOWS nobody and nobody KNOWS it, so none of the three can be one. */
        boolean canMeet(int a, int b, int c) {
            return a != b && a != c && b != c && takes[pair(a, b)] == 0
                    && fate.isThere(a) && fate.isThere(b) && fate.isThere(c)
                    && isIn(known[c], a) && isIn(known[c], b);
        }

        void acquaint(int a, int b) {
            takes[pair(a, b)] = 1;
            known[a] |= 1 << b;
            known[b] |= 1 << a;
        }

        /** 0 if one gives to another one, 1 if they can MEET; NONE if neither can be. */
        int acquaintancesFor(City city, int one, int other) {
            if (!fate.isThere(one) || !fate.isThere(other)) {
                return NONE;
            }
            if (takes[pair(one, other)] > 0) {
                return 0;
            }
            for (int third = 0; third < city.people; third++) {
                if (canMeet(one, other, third)) {
                    return 1;
                }
            }
            return NONE;
        }
    }

    /** What was TOLD and UNTOLD, and the TIME. */
    private static final class Entries {
        static final int NOBODY = -1;
        static final int ANY_DAY = 100;

        int time;
        int count;
        /** Who was TAKEN; NOBODY where something came late. */
        private final int[] who = new int[MOST_ENTRIES];
        private final int[] over = new int[MOST_ENTRIES];
        private final int[] days = new int[MOST_ENTRIES];
        private final int[] toldAt = new int[MOST_ENTRIES];
        /** NONE as long as it is not UNTOLD. */
        private final int[] untoldAt = new int[MOST_ENTRIES];

        void forget() {
            count = 0;
        }

        int tell(int one, int people, int day) {
            if (day < 0 || day > MOST_DAYS || count >= MOST_ENTRIES) {
                return NONE;
            }
            int entry = count;
            count++;
            who[entry] = one;
            over[entry] = people;
            days[entry] = day;
            toldAt[entry] = time;
            untoldAt[entry] = NONE;
            return entry;
        }

        boolean withdraw(int entry) {
            if (entry < 0 || entry >= count || untoldAt[entry] != NONE) {
                return false;
            }
            untoldAt[entry] = time;
            return true;
        }

        private boolean counts(int entry, int k) {
            return toldAt[entry] <= k && (untoldAt[entry] == NONE || untoldAt[entry] > k);
        }

        boolean explainedBy(int set, int luck, int k) {
            for (int entry = 0; entry < count; entry++) {
                if (who[entry] == NOBODY && counts(entry, k)) {
                    int rest = days[entry] - Integer.bitCount(over[entry] & set);
                    if (rest < 0 || rest > luck) {
                        return false;
                    }
                }
            }
            return true;
        }

        /** On which DAY one must have been TAKEN first; ANY_DAY if nobody was, NONE if it can't be. */
        int startOf(Falls falls, int one, int k) {
            int start = ANY_DAY;
            for (int entry = 0; entry < count; entry++) {
                if (who[entry] != NOBODY && counts(entry, k)) {
                    int behind = falls.takenOn[pair(one, who[entry])];
                    int day = days[entry] - behind;
                    if (behind == NONE || day < 0 || start != ANY_DAY && start != day) {
                        return NONE;
                    }
                    start = day;
                }
            }
            return start;
        }
    }
}
