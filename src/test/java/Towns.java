import java.util.ArrayList;
import java.util.Collections;
import java.util.List;
import java.util.Random;

/** Makes texts of a CITY by chance: mostly sound ones, some with a FAULT somewhere. */
final class Towns {
    private static final String[] NAMES = {"a", "bb", "ccc", "plain", "e", "fghijklm", "g", "on", "ones",
        "j", "toto", "l", "m", "n"};
    private static final String[] SCRAPS = {"one", "box", "slow", "7", "1000", "00001", "9", ";", " ", "\n", "\t",
        "a", "zz", "abcdefghi", "1x", "A", "to", "luck 3;", "from a;", "takes", "\u00e9", "blind", "0"};

    private final Random chance;

    Towns(Random chance) {
        this.chance = chance;
    }

    String make() {
        List<String> tokens = sound();
        String text = join(tokens);
        if (chance.nextInt(3) == 0) {
            text = spoil(text);
        }
        return text.length() > 1600 ? text.substring(0, 1600) : text;
    }

    private List<String> sound() {
        List<String> lines = new ArrayList<>();
        int people = chance.nextInt(12) == 0 ? chance.nextInt(14) : 2 + chance.nextInt(6);
        int calm = chance.nextInt(3);
        for (int i = 0; i < people; i++) {
            String[] kinds = {"", "", "", "", " blind", " bought", " box"};
            lines.add("one " + NAMES[i] + kinds[chance.nextInt(kinds.length)] + " slow " + number(calm == 0 ? 9 : 3)
                    + " holds " + number(calm == 1 ? 9 : 3) + " risk " + number(chance.nextInt(3) == 0 ? 1 : 99)
                    + " keeps " + number(chance.nextInt(2) == 0 ? 3 : 999) + " ;");
        }
        if (people > 0) {
            givesOf(lines, people);
        }
        return lines;
    }

    private void givesOf(List<String> lines, int people) {
        List<String> more = new ArrayList<>();
        List<Integer> pairs = new ArrayList<>();
        for (int i = 0; i < people * people; i++) {
            if (i / people != i % people) {
                pairs.add(i);
            }
        }
        Collections.shuffle(pairs, chance);
        int most = people > 8 ? people + 6 : chance.nextInt(3) == 0 ? 32 : 2 * people;
        for (int i = 0; i < pairs.size() && i < most; i++) {
            int takes = 1 + chance.nextInt(chance.nextInt(2) == 0 ? 2 : 9);
            more.add("gives " + NAMES[pairs.get(i) / people] + " " + NAMES[pairs.get(i) % people] + " takes " + takes + " ;");
        }
        if (chance.nextInt(15) != 0) {
            more.add("from " + NAMES[chance.nextInt(people)] + " ;");
        }
        if (chance.nextInt(15) != 0) {
            more.add("to " + NAMES[chance.nextInt(people)] + " ;");
        }
        if (chance.nextInt(2) != 0) {
            more.add("luck " + number(4) + " ;");
        }
        Collections.shuffle(more, chance);
        lines.addAll(more);
    }

    private String number(int most) {
        int value = chance.nextInt(most + 1);
        return chance.nextInt(20) == 0 ? "00" + value % 100 : Integer.toString(value);
    }

    private String join(List<String> lines) {
        StringBuilder all = new StringBuilder();
        boolean tight = chance.nextBoolean();
        for (String line : lines) {
            all.append(tight ? line.replace(" ;", ";").replace("slow ", "slow").replace("takes ", "takes") : line + "\n");
        }
        return all.toString();
    }

    private String spoil(String text) {
        int at = chance.nextInt(text.length() + 1);
        String scrap = SCRAPS[chance.nextInt(SCRAPS.length)];
        switch (chance.nextInt(4)) {
            case 0:
                return text.substring(0, at) + scrap + text.substring(at);
            case 1:
                return text.substring(0, at);
            case 2:
                return text.substring(0, at) + text.substring(Math.min(text.length(), at + 1));
            default:
                return text.substring(0, at) + scrap + text.substring(Math.min(text.length(), at + scrap.length()));
        }
    }
}
