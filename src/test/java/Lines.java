/** Writes the lines of a CITY's text; tests that tell a CITY extend it. */
abstract class Lines {
    static final int NONE = -1;

    static String one(String name, int slow, int holds, int risk, int keeps) {
        return "one " + name + " slow " + slow + " holds " + holds + " risk " + risk + " keeps " + keeps + ";";
    }

    static String kind(String name, String kind, int slow, int holds) {
        return "one " + name + " " + kind + " slow " + slow + " holds " + holds + " risk 0 keeps 0;";
    }

    static String box(String name) {
        return kind(name, "box", 0, 0);
    }

    /** PLAIN ones who tell at once and flee at once. */
    static String plain(String... names) {
        StringBuilder all = new StringBuilder();
        for (String name : names) {
            all.append(one(name, 0, 0, 0, 0));
        }
        return all.toString();
    }

    /** PLAIN ones who hold and wait as long as can be. */
    static String calm(String... names) {
        StringBuilder all = new StringBuilder();
        for (String name : names) {
            all.append(one(name, 9, 9, 0, 0));
        }
        return all.toString();
    }

    /** Steps such as "gs2": g gives to s, which takes 2. */
    static String gives(String... steps) {
        StringBuilder all = new StringBuilder();
        for (String step : steps) {
            all.append("gives ").append(step.charAt(0)).append(' ').append(step.charAt(1)).append(" takes ")
                    .append(step.charAt(2)).append(';');
        }
        return all.toString();
    }
}
