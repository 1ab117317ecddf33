import java.util.ArrayList;
import java.util.Arrays;
import java.util.Comparator;
import java.util.HashMap;
import java.util.LinkedHashSet;
import java.util.List;
import java.util.Map;
import java.util.Set;
import java.math.BigInteger;

/**
 * The document once more, as naively as can be: every WAY is written out, every set is tried. It
 * shares no line with the program, so that a slip in one of the two shows.
 */
final class Model {
    static final int NONE = -1;
    private static final List<String> OWN = List.of("one", "blind", "bought", "box", "slow", "holds",
            "risk", "keeps", "gives", "takes", "from", "to", "luck");

    private static final class Person {
        String name;
        String kind = "plain";
        final Map<String, Integer> number = new HashMap<>();

        boolean is(String wanted) {
            return kind.equals(wanted);
        }
    }

    private static final class Town {
        final List<Person> people = new ArrayList<>();
        /** Rows of giver, other, days. */
        final List<int[]> gives = new ArrayList<>();
        int gate = NONE;
        int sea = NONE;
        int luck = NONE;

        int find(String name) {
            for (int i = 0; i < people.size(); i++) {
                if (people.get(i).name.equals(name)) {
                    return i;
                }
            }
            return NONE;
        }
    }

    private static final class Wrong extends Exception {
        private static final long serialVersionUID = 1L;
        final int fault;
        final int place;

        Wrong(int fault, int place) {
            this.fault = fault;
            this.place = place;
        }
    }

    private static final class Parcel {
        int holder;
        int sent;
        int ended = NONE;
        int next = NONE;
        int due = NONE;

        Parcel twin() {
            Parcel p = new Parcel();
            p.holder = holder;
            p.sent = sent;
            p.ended = ended;
            p.next = next;
            p.due = due;
            return p;
        }
    }

    private static final class World {
        int day;
        final int[] state = new int[12];
        final int[] since = new int[12];
        final List<int[]> met = new ArrayList<>();
        final List<Parcel> parcels = new ArrayList<>();

        World() {
            Arrays.fill(since, NONE);
        }

        World twin() {
            World w = new World();
            w.day = day;
            System.arraycopy(state, 0, w.state, 0, 12);
            System.arraycopy(since, 0, w.since, 0, 12);
            w.met.addAll(met);
            for (Parcel p : parcels) {
                w.parcels.add(p.twin());
            }
            return w;
        }
    }

    private static final class Note {
        boolean late;
        int whom;
        int days;
        int told;
        Integer untold;
    }

    private StringBuilder tape = new StringBuilder();
    private Town town = new Town();
    private int fault;
    private int place = NONE;
    private List<Integer> way = List.of();
    private World world = new World();
    private final World[] kept = new World[3];
    private List<Note> notes = new ArrayList<>();
    private int time;

    // ---- the text ----

    int feed(int... numbers) {
        if (tape.length() + 20 > 1600) {
            return NONE;
        }
        for (int number : numbers) {
            tape.append((char) (number >>> 24)).append((char) (number >>> 16 & 255))
                    .append((char) (number >>> 8 & 255)).append((char) (number & 255));
        }
        return tape.length();
    }

    int end(int n) {
        if (n < 0 || n > tape.length()) {
            return NONE;
        }
        tape.setLength(n);
        return n;
    }

    int city() {
        String text = tape.toString();
        tape = new StringBuilder();
        try {
            town = parse(text);
        } catch (Wrong wrong) {
            fault = wrong.fault;
            place = wrong.place;
            return NONE;
        }
        fault = 0;
        place = NONE;
        way = List.of();
        world = new World();
        Arrays.fill(kept, null);
        notes = new ArrayList<>();
        return town.people.size();
    }

    private String text;
    private int at;

    /** The TOKEN that stands next, without going on; "" at the end. */
    private String peek() throws Wrong {
        while (at < text.length() && " \n".indexOf(text.charAt(at)) >= 0) {
            at++;
        }
        if (at == text.length()) {
            return "";
        }
        java.util.regex.Matcher m = java.util.regex.Pattern.compile("[a-z]+|[0-9]+|;").matcher(text);
        m.region(at, text.length());
        if (!m.lookingAt()) {
            throw new Wrong(1, at);
        }
        String token = m.group();
        char first = token.charAt(0);
        if (Character.isLetter(first) && token.length() > 8) {
            throw new Wrong(1, at);
        }
        boolean letterBehind = m.end() < text.length() && "abcdefghijklmnopqrstuvwxyz".indexOf(text.charAt(m.end())) >= 0;
        if (Character.isDigit(first) && (token.length() > 4 || letterBehind)) {
            throw new Wrong(1, at);
        }
        return token;
    }

    private void must(boolean right, int otherwise) throws Wrong {
        if (!right) {
            throw new Wrong(otherwise, at);
        }
    }

    private void word(String wanted) throws Wrong {
        must(peek().equals(wanted), 2);
        at += wanted.length();
    }

    private String name() throws Wrong {
        String token = peek();
        must(!token.isEmpty() && Character.isLetter(token.charAt(0)) && !OWN.contains(token), 2);
        return token;
    }

    private int person() throws Wrong {
        String token = name();
        must(town2.find(token) != NONE, 5);
        return town2.find(token);
    }

    private int number(int least, int most) throws Wrong {
        String token = peek();
        must(!token.isEmpty() && Character.isDigit(token.charAt(0)), 2);
        int value = Integer.parseInt(token);
        must(value >= least && value <= most, 4);
        at += token.length();
        return value;
    }

    private Town town2;

    private Town parse(String whole) throws Wrong {
        text = whole;
        at = 0;
        town2 = new Town();
        for (String first = peek(); !first.isEmpty(); first = peek()) {
            boolean room = first.equals("one") && town2.people.size() < 12
                    || first.equals("gives") && town2.gives.size() < 30
                    || first.equals("from") && town2.gate == NONE
                    || first.equals("to") && town2.sea == NONE
                    || first.equals("luck") && town2.luck == NONE;
            must(room, 2);
            word(first);
            if (first.equals("one")) {
                parseOne();
            } else if (first.equals("gives")) {
                parseGives();
            } else if (first.equals("luck")) {
                town2.luck = number(0, 9);
            } else {
                int who = person();
                at += town2.people.get(who).name.length();
                if (first.equals("from")) {
                    town2.gate = who;
                } else {
                    town2.sea = who;
                }
            }
            word(";");
        }
        return town2;
    }

    private void parseOne() throws Wrong {
        Person p = new Person();
        p.name = name();
        must(town2.find(p.name) == NONE, 3);
        at += p.name.length();
        String kind = peek();
        if (List.of("blind", "bought", "box").contains(kind)) {
            p.kind = kind;
            at += kind.length();
        }
        int[] most = {9, 9, 99, 999};
        String[] marks = {"slow", "holds", "risk", "keeps"};
        for (int i = 0; i < 4; i++) {
            word(marks[i]);
            p.number.put(marks[i], number(0, most[i]));
        }
        town2.people.add(p);
    }

    private void parseGives() throws Wrong {
        int giver = person();
        at += town2.people.get(giver).name.length();
        int other = person();
        must(giver != other, 3);
        for (int[] row : town2.gives) {
            must(row[0] != giver || row[1] != other, 3);
        }
        at += town2.people.get(other).name.length();
        word("takes");
        town2.gives.add(new int[] {giver, other, number(1, 9)});
    }

    int fault(int what) {
        return what == 0 ? fault : what == 1 ? place : NONE;
    }

    // ---- who KNOWS whom ----

    private int n() {
        return town.people.size();
    }

    private boolean has(int one) {
        return one >= 0 && one < n();
    }

    private Person person(int one) {
        return town.people.get(one);
    }

    private int of(int one, String what) {
        return person(one).number.get(what);
    }

    private boolean knowsAsTold(int one, int other) {
        if (person(one).is("box") || person(other).is("box")) {
            return false;
        }
        for (int[] row : town.gives) {
            if (row[0] == one && row[1] == other || row[1] == one && row[0] == other && !person(one).is("blind")) {
                return true;
            }
        }
        return false;
    }

    private boolean knowsNow(int one, int other) {
        for (int[] row : world.met) {
            if (row[0] == one && row[1] == other || row[1] == one && row[0] == other) {
                return true;
            }
        }
        return knowsAsTold(one, other);
    }

    int knows(int one) {
        if (!has(one)) {
            return NONE;
        }
        int bits = 0;
        for (int other = 0; other < n(); other++) {
            bits += knowsAsTold(one, other) ? 1 << other : 0;
        }
        return bits;
    }

    // ---- WAYS ----

    /** Rows of giver, other, days; all WAYS over them, by who is open. */
    private List<List<Integer>> allWays(List<int[]> rows, int open) {
        List<List<Integer>> found = new ArrayList<>();
        if (town.gate != NONE && town.sea != NONE) {
            extend(new ArrayList<>(List.of(town.gate)), rows, open, found);
        }
        return found;
    }

    private void extend(List<Integer> row, List<int[]> rows, int open, List<List<Integer>> found) {
        int last = row.get(row.size() - 1);
        if (last == town.sea) {
            found.add(new ArrayList<>(row));
            return;
        }
        for (int[] step : rows) {
            if (step[0] == last && !row.contains(step[1]) && (open >> step[1] & 1) == 1) {
                row.add(step[1]);
                extend(row, rows, open, found);
                row.remove(row.size() - 1);
            }
        }
    }

    private static List<Integer> between(List<Integer> w) {
        return w.size() < 3 ? List.of() : w.subList(1, w.size() - 1);
    }

    private static int byRow(List<Integer> a, List<Integer> b) {
        if (a.size() != b.size()) {
            return a.size() - b.size();
        }
        for (int i = 0; i < a.size(); i++) {
            if (!a.get(i).equals(b.get(i))) {
                return a.get(i) - b.get(i);
            }
        }
        return 0;
    }

    private static int total(List<Integer> w, List<int[]> rows) {
        int sum = 0;
        for (int i = 1; i < w.size(); i++) {
            for (int[] row : rows) {
                sum += row[0] == w.get(i - 1) && row[1] == w.get(i) ? row[2] : 0;
            }
        }
        return sum;
    }

    private boolean lay(List<List<Integer>> ways, Comparator<List<Integer>> order) {
        way = List.of();
        if (ways.isEmpty()) {
            return false;
        }
        ways.sort(order.thenComparing(Model::byRow));
        way = ways.get(0);
        return true;
    }

    int quick() {
        return lay(allWays(town.gives, -1), Comparator.comparing(w -> total(w, town.gives)))
                ? total(way, town.gives) : NONE;
    }

    private BigInteger upper(List<Integer> w) {
        BigInteger product = BigInteger.ONE;
        for (int one : between(w)) {
            product = product.multiply(BigInteger.valueOf(100 - of(one, "risk")));
        }
        return product;
    }

    private BigInteger lower(List<Integer> w) {
        return BigInteger.valueOf(100).pow(between(w).size());
    }

    long safe(int part) {
        way = List.of();
        if (part < 0 || part > 1) {
            return NONE;
        }
        List<List<Integer>> ways = allWays(town.gives, -1);
        ways.removeIf(w -> between(w).size() > 9);
        if (!lay(ways, (a, b) -> upper(b).multiply(lower(a)).compareTo(upper(a).multiply(lower(b))))) {
            return NONE;
        }
        BigInteger shared = upper(way).gcd(lower(way));
        return (part == 0 ? upper(way) : lower(way)).divide(shared).longValueExact();
    }

    private int kept(List<Integer> w) {
        return between(w).stream().mapToInt(one -> of(one, "keeps")).sum();
    }

    int cheap() {
        return lay(allWays(town.gives, -1), Comparator.comparing(this::kept)) ? kept(way) : NONE;
    }

    int lies(int i) {
        return i >= 0 && i < way.size() ? way.get(i) : NONE;
    }

    private static int bits(List<Integer> people) {
        return people.stream().mapToInt(one -> 1 << one).sum();
    }

    int apart() {
        Set<Integer> sets = new LinkedHashSet<>();
        for (List<Integer> w : allWays(town.gives, -1)) {
            sets.add(bits(between(w)));
        }
        int direct = sets.remove(0) ? 1 : 0;
        return direct + mostApart(new ArrayList<>(sets), 0, new HashMap<>());
    }

    private int mostApart(List<Integer> sets, int used, Map<Integer, Integer> known) {
        if (known.containsKey(used)) {
            return known.get(used);
        }
        int most = 0;
        for (int set : sets) {
            if ((set & used) == 0) {
                most = Math.max(most, 1 + mostApart(sets, used | set, known));
            }
        }
        known.put(used, most);
        return most;
    }

    int cut() {
        List<Integer> sets = new ArrayList<>();
        for (List<Integer> w : allWays(town.gives, -1)) {
            sets.add(bits(between(w)));
        }
        int best = NONE;
        for (int set = 0; set < 1 << n(); set++) {
            boolean bars = true;
            for (int one = 0; one < n(); one++) {
                boolean fixed = person(one).is("box") || one == town.gate || one == town.sea;
                bars &= (set >> one & 1) == 0 || !fixed;
            }
            for (int other : sets) {
                bars &= (other & set) != 0;
            }
            if (bars && (best == NONE || Integer.bitCount(set) < Integer.bitCount(best))) {
                best = set;
            }
        }
        return best;
    }

    // ---- FALL ----

    private interface Knowing {
        boolean knows(int one, int other);
    }

    private boolean tellsAtOnce(int one) {
        return person(one).is("bought") || of(one, "holds") == 0;
    }

    private void seize(World w, int one, Knowing knowing) {
        if (w.state[one] != 0) {
            return;
        }
        w.state[one] = 1;
        w.since[one] = w.day;
        if (tellsAtOnce(one)) {
            tell(w, one, knowing);
        }
    }

    private void tell(World w, int one, Knowing knowing) {
        for (int other = 0; other < n(); other++) {
            if (knowing.knows(one, other)) {
                seize(w, other, knowing);
            }
        }
    }

    private void tellAndFlee(World w, Knowing knowing) {
        for (int one = 0; one < n(); one++) {
            if (w.state[one] == 1 && !tellsAtOnce(one) && w.since[one] + of(one, "holds") == w.day) {
                tell(w, one, knowing);
            }
        }
        for (int one = 0; one < n(); one++) {
            for (int other = 0; other < n(); other++) {
                if (w.state[one] == 0 && w.state[other] == 1 && knowing.knows(one, other)
                        && !person(one).is("bought") && !person(one).is("box")
                        && w.since[other] + 1 + of(one, "slow") <= w.day) {
                    w.state[one] = 2;
                    w.since[one] = w.day;
                }
            }
        }
    }

    private World fallOf(int one, int day) {
        World w = new World();
        w.day = day;
        seize(w, one, this::knowsAsTold);
        for (int i = 0; i < 150; i++) {
            w.day++;
            tellAndFlee(w, this::knowsAsTold);
        }
        return w;
    }

    int fall(int one, int other, int what) {
        if (!has(one) || !has(other) || person(one).is("box") || what < 0 || what > 1) {
            return -2;
        }
        World w = fallOf(one, 0);
        return w.state[other] == what + 1 ? w.since[other] : NONE;
    }

    int worst(int what) {
        int who = NONE;
        int most = NONE;
        for (int one = 0; one < n(); one++) {
            if (!person(one).is("box")) {
                int many = 0;
                for (int state : fallOf(one, 0).state) {
                    many += state == 1 ? 1 : 0;
                }
                if (many > most) {
                    most = many;
                    who = one;
                }
            }
        }
        return what == 0 ? who : what == 1 ? most : NONE;
    }

    // ---- in earnest ----

    private boolean there(int one) {
        return world.state[one] == 0;
    }

    private List<int[]> givesNow() {
        List<int[]> rows = new ArrayList<>(town.gives);
        for (int[] pair : world.met) {
            rows.add(new int[] {pair[0], pair[1], 1});
        }
        return rows;
    }

    private Integer daysToSea(int from, int passed) {
        if (!there(from)) {
            return null;
        }
        if (from == town.sea) {
            return 0;
        }
        Integer least = null;
        for (int[] row : givesNow()) {
            if (row[0] == from && (passed >> row[1] & 1) == 0) {
                Integer rest = daysToSea(row[1], passed | 1 << from);
                if (rest != null && (least == null || rest + row[2] < least)) {
                    least = rest + row[2];
                }
            }
        }
        return least;
    }

    private void choose(Parcel p) {
        p.next = NONE;
        p.due = NONE;
        Integer least = null;
        for (int other = 0; other < n(); other++) {
            for (int[] row : givesNow()) {
                if (row[0] == p.holder && row[1] == other && town.sea != NONE) {
                    Integer rest = daysToSea(other, 0);
                    if (rest != null && (least == null || rest + row[2] < least)) {
                        least = rest + row[2];
                        p.next = other;
                        p.due = world.day + row[2];
                    }
                }
            }
        }
    }

    private void arrive(Parcel p, int one) {
        p.holder = one;
        p.next = NONE;
        p.due = NONE;
        if (one == town.sea) {
            p.holder = -3;
            p.ended = world.day;
        }
    }

    int send() {
        if (town.gate == NONE || !there(town.gate) || world.parcels.size() == 12) {
            return NONE;
        }
        Parcel p = new Parcel();
        p.sent = world.day;
        world.parcels.add(p);
        arrive(p, town.gate);
        if (p.holder >= 0) {
            choose(p);
        }
        return world.parcels.size() - 1;
    }

    int day(int days) {
        if (days < 0 || days > 99 || world.day + days > 1000) {
            return NONE;
        }
        for (int i = 0; i < days; i++) {
            world.day++;
            for (Parcel p : world.parcels) {
                if (p.holder >= 0 && p.due == world.day && there(p.holder) && there(p.next)) {
                    arrive(p, p.next);
                }
            }
            tellAndFlee(world, this::knowsNow);
            for (Parcel p : world.parcels) {
                if (p.holder >= 0 && !there(p.holder)) {
                    p.holder = -2;
                    p.ended = world.day;
                    p.next = NONE;
                    p.due = NONE;
                }
            }
            for (Parcel p : world.parcels) {
                if (p.holder >= 0 && (p.next == NONE || !there(p.next))) {
                    choose(p);
                }
            }
        }
        return world.day;
    }

    private int takenNow() {
        int many = 0;
        for (int state : world.state) {
            many += state == 1 ? 1 : 0;
        }
        return many;
    }

    int take(int one) {
        if (!has(one) || person(one).is("box") || !there(one)) {
            return NONE;
        }
        int before = takenNow();
        seize(world, one, this::knowsNow);
        return takenNow() - before;
    }

    private boolean givesNow(int a, int b) {
        for (int[] row : givesNow()) {
            if (row[0] == a && row[1] == b) {
                return true;
            }
        }
        return false;
    }

    private boolean canMeet(int a, int b, int c) {
        for (int one : new int[] {a, b, c}) {
            if (!has(one) || !there(one) || person(one).is("box")) {
                return false;
            }
        }
        return a != b && b != c && a != c && knowsNow(c, a) && knowsNow(c, b) && !givesNow(a, b);
    }

    boolean meet(int a, int b, int c) {
        if (!canMeet(a, b, c)) {
            return false;
        }
        world.met.add(new int[] {a, b});
        return true;
    }

    int one(int one, int what) {
        if (!has(one) || what < 0 || what > 2) {
            return NONE;
        }
        int bits = 0;
        for (int other = 0; other < n(); other++) {
            bits += knowsNow(one, other) ? 1 << other : 0;
        }
        return what == 0 ? world.state[one] : what == 1 ? world.since[one] : bits;
    }

    int thing(int thing, int what) {
        if (thing < 0 || thing >= world.parcels.size() || what < 0 || what > 4) {
            return -4;
        }
        Parcel p = world.parcels.get(thing);
        return new int[] {p.holder, p.sent, p.ended, p.next, p.due}[what];
    }

    int gap() {
        way = List.of();
        if (town.gate == NONE || town.sea == NONE || !there(town.gate) || !there(town.sea)) {
            return NONE;
        }
        List<int[]> rows = new ArrayList<>();
        int open = 0;
        for (int a = 0; a < n(); a++) {
            open += there(a) ? 1 << a : 0;
            for (int b = 0; b < n(); b++) {
                boolean by = false;
                for (int c = 0; c < n(); c++) {
                    by |= canMeet(a, b, c);
                }
                if (givesNow(a, b) || by) {
                    rows.add(new int[] {a, b, givesNow(a, b) ? 0 : 1});
                }
            }
        }
        return lay(allWays(rows, open), Comparator.comparing(w -> total(w, rows))) ? total(way, rows) : NONE;
    }

    int image(int box) {
        if (box < 0 || box > 2) {
            return NONE;
        }
        kept[box] = world.twin();
        return world.day;
    }

    int back(int box) {
        if (box < 0 || box > 2 || kept[box] == null) {
            return NONE;
        }
        world = kept[box].twin();
        return world.day;
    }

    // ---- ENTRIES ----

    private int add(boolean late, int whom, int days) {
        if (days < 0 || days > 99 || notes.size() == 40) {
            return NONE;
        }
        Note note = new Note();
        note.late = late;
        note.whom = whom;
        note.days = days;
        note.told = time;
        notes.add(note);
        return notes.size() - 1;
    }

    int late(int people, int days) {
        return people < 0 || people >= 1 << n() ? NONE : add(true, people, days);
    }

    int taken(int one, int day) {
        return !has(one) || person(one).is("box") ? NONE : add(false, one, day);
    }

    boolean untell(int entry) {
        if (entry < 0 || entry >= notes.size() || notes.get(entry).untold != null) {
            return false;
        }
        notes.get(entry).untold = time;
        return true;
    }

    int later(int by) {
        if (by < 0 || by > 1000 || time + by > 100000) {
            return NONE;
        }
        time += by;
        return time;
    }

    private List<Note> countingAt(int k, boolean late) {
        List<Note> some = new ArrayList<>();
        for (Note note : notes) {
            if (note.late == late && note.told <= k && (note.untold == null || note.untold > k)) {
                some.add(note);
            }
        }
        return some;
    }

    int spies(int what, int k) {
        if (what < 0 || what > 2) {
            return NONE;
        }
        int luck = Math.max(0, town.luck);
        List<Integer> sets = new ArrayList<>();
        for (int set = 0; set < 1 << n(); set++) {
            boolean fits = Integer.bitCount(set) <= 3;
            for (int one = 0; one < n(); one++) {
                fits &= (set >> one & 1) == 0 || !person(one).is("box");
            }
            for (Note note : countingAt(k, true)) {
                int rest = note.days - Integer.bitCount(note.whom & set);
                fits &= rest >= 0 && rest <= luck;
            }
            if (fits) {
                sets.add(set);
            }
        }
        if (what == 0) {
            return sets.size();
        }
        return what == 1 ? sets.stream().reduce((a, b) -> a & b).orElse(0)
                : sets.stream().reduce((a, b) -> a | b).orElse(0);
    }

    int origins(int what, int k) {
        if (what < 0 || what > 2) {
            return NONE;
        }
        List<Integer> found = new ArrayList<>();
        List<Note> counting = countingAt(k, false);
        for (int one = 0; one < n(); one++) {
            for (int day = 0; day < 100 && !person(one).is("box"); day++) {
                World w = fallOf(one, day);
                boolean fits = true;
                for (Note note : counting) {
                    fits &= w.state[note.whom] == 1 && w.since[note.whom] == note.days;
                }
                if (fits) {
                    found.add(100 * one + day);
                }
            }
        }
        if (what == 0) {
            return found.size();
        }
        if (what == 2) {
            return found.isEmpty() ? NONE : found.get(0);
        }
        return found.stream().mapToInt(f -> 1 << f / 100).reduce(0, (a, b) -> a | b);
    }

    int about(int what) {
        int come = 0;
        int lost = 0;
        for (Parcel p : world.parcels) {
            come += p.holder == -3 ? 1 : 0;
            lost += p.holder == -2 ? 1 : 0;
        }
        int[] all = {n(), town.gives.size(), town.gate, town.sea, world.day, world.parcels.size(),
            notes.size(), time, tape.length(), way.size(), come, lost};
        return what >= 0 && what < all.length ? all[what] : NONE;
    }
}
