import java.util.ArrayList;
import java.util.List;
import java.util.Random;

/** Promises 2 to 5: texts as they come, well told and spoilt, held against a reader written another way. */
public final class TextTest {
    public static void main(String[] args) {
        Random random = new Random(5);
        for (int round = 0; round < 40000; round++) {
            String text = randomSystem(random);
            system(round % 3 == 0 ? text : spoilt(random, text, "sm;0123456789 90x"));
            String formula = Check.randomFormula(random, 1 + random.nextInt(20), random.nextInt(6), "abc01");
            formula = spaced(random, formula);
            formula(round % 3 == 0 ? formula : spoilt(random, formula, "abc01nkoxfgu d"));
        }
        Check.end();
    }

    private static String randomSystem(Random random) {
        StringBuilder text = new StringBuilder();
        int states = 0;
        int items = random.nextInt(18);
        for (int i = 0; i < items; i++) {
            if (random.nextInt(3) == 0 && states < 5 + random.nextInt(2) || states == 0) {
                text.append(random.nextInt(3) == 0 ? " s " : "s").append(random.nextInt(8)).append(';');
                states++;
            } else {
                text.append('m').append(random.nextInt(2)).append(' ').append(random.nextInt(states)).append("  ");
                text.append(random.nextInt(states)).append(random.nextInt(4) == 0 ? " ;" : ";");
            }
        }
        return text.length() > 120 ? text.substring(0, 120) : text.toString();
    }

    private static String spaced(Random random, String letters) {
        StringBuilder text = new StringBuilder();
        for (char letter : letters.toCharArray()) {
            text.append(random.nextInt(4) == 0 ? " " : "").append(letter);
        }
        return text.append(random.nextInt(4) == 0 ? "  " : "").toString();
    }

    private static String spoilt(Random random, String text, String letters) {
        StringBuilder other = new StringBuilder(text);
        int times = 1 + random.nextInt(2);
        for (int i = 0; i < times; i++) {
            int at = random.nextInt(other.length() + 1);
            char letter = letters.charAt(random.nextInt(letters.length()));
            if (at < other.length() && random.nextBoolean()) {
                other.setCharAt(at, letter);
            } else if (at < other.length() && random.nextBoolean()) {
                other.deleteCharAt(at);
            } else if (other.length() < 120) {
                other.insert(at, letter);
            }
        }
        if (random.nextInt(8) == 0) {
            other.setLength(random.nextInt(other.length() + 1));
        }
        return other.toString();
    }

    private static void system(String text) {
        LassoPaths x = Check.made("s3;s4;m1 0 1;", "1");
        Check.typed(x, text);
        List<int[]> items = new ArrayList<>();
        int fault = faultOfSystem(text, items);
        String of = "system \"" + text + "\"";
        if (fault >= 0) {
            Check.due(of, x.system(), -10 - fault);
            Check.due(of + " text stays", x.count(5), text.length());
            Check.due(of + " states stay", x.count(0), 2);
            Check.due(of + " moves stay", x.count(1), 1);
            Check.due(of + " label stays", x.label(1), 4);
            Check.due(of + " undone", x.count(6), 2);
            return;
        }
        Check.due(of, x.system(), items.size());
        Check.due(of + " text is empty", x.count(5), 0);
        int states = 0;
        int moves = 0;
        for (int[] item : items) {
            if (item.length == 1) {
                Check.due(of + " label " + states, x.label(states++), item[0]);
            } else {
                for (int what = 0; what < 3; what++) {
                    Check.due(of + " move " + moves, x.move(moves, what), item[what]);
                }
                moves++;
            }
        }
        Check.due(of + " states", x.count(0), states);
        Check.due(of + " moves", x.count(1), moves);
    }

    /** The fault's place, or -1: all tokens are cut first, then looked at one by one. */
    private static int faultOfSystem(String text, List<int[]> items) {
        List<String> tokens = new ArrayList<>();
        List<Integer> places = new ArrayList<>();
        java.util.regex.Matcher cut = java.util.regex.Pattern.compile("[0-9]+|[^ ]").matcher(text);
        while (cut.find()) {
            tokens.add(cut.group());
            places.add(cut.start());
        }
        int at = 0;
        int states = 0;
        int moves = 0;
        while (at < tokens.size()) {
            String head = tokens.get(at);
            if (!(head.equals("s") && states < 5 || head.equals("m") && moves < 10)) {
                return places.get(at);
            }
            int[] bounds = head.equals("s") ? new int[] {8} : new int[] {2, states, states};
            int[] item = new int[bounds.length];
            for (int i = 0; i <= bounds.length; i++) {
                at++;
                if (at >= tokens.size()) {
                    return text.length();
                }
                String token = tokens.get(at);
                boolean fits = i == bounds.length ? token.equals(";")
                        : token.matches("0|[1-9][0-9]?") && Integer.parseInt(token) < bounds[i];
                if (!fits) {
                    return places.get(at);
                }
                if (i < bounds.length) {
                    item[i] = Integer.parseInt(token);
                }
            }
            at++;
            items.add(item);
            states += item.length == 1 ? 1 : 0;
            moves += item.length == 3 ? 1 : 0;
        }
        return -1;
    }

    private static void formula(String text) {
        LassoPaths x = Check.made("", "kax b");
        Check.typed(x, text);
        String letters = text.replace(" ", "");
        int fault = faultOfFormula(text);
        String of = "formula \"" + text + "\"";
        if (fault >= 0) {
            Check.due(of, x.formula(), -10 - fault);
            Check.due(of + " text stays", x.count(5), text.length());
            Check.due(of + " parts stay", x.count(2), 4);
            Check.due(of + " later ones stay", x.count(3), 1);
            Check.due(of + " undone", x.count(6), 2);
            return;
        }
        Check.due(of, x.formula(), letters.length());
        Check.due(of + " text is empty", x.count(5), 0);
        parts(x, letters, 0, LassoPaths.NONE);
    }

    private static int faultOfFormula(String text) {
        int due = 1;
        int parts = 0;
        int laters = 0;
        for (int i = 0; i < text.length(); i++) {
            char letter = text.charAt(i);
            if (letter != ' ') {
                parts++;
                laters += "xfgu".indexOf(letter) >= 0 ? 1 : 0;
                if (due == 0 || "abc01nkoxfgu".indexOf(letter) < 0 || parts > 16 || laters > 3) {
                    return i;
                }
                due += "kou".indexOf(letter) >= 0 ? 1 : "nxfg".indexOf(letter) >= 0 ? 0 : -1;
            }
        }
        return due == 0 ? -1 : text.length();
    }

    /** Looks at the part at p and all in it: where the next one begins. */
    private static int parts(LassoPaths x, String letters, int p, int outer) {
        char letter = letters.charAt(p);
        int inner = "kou".indexOf(letter) >= 0 ? 2 : "nxfg".indexOf(letter) >= 0 ? 1 : 0;
        int end = p + 1;
        for (int i = 0; i < inner; i++) {
            end = parts(x, letters, end, p);
        }
        Check.due(letters + " letter of " + p, x.part(p, 0), letter);
        Check.due(letters + " parts of " + p, x.part(p, 1), end - p);
        Check.due(letters + " around " + p, x.part(p, 2), outer);
        Check.due(letters + " later " + p, x.part(p, 3), "xfgu".indexOf(letter) >= 0 ? 1 : 0);
        return end;
    }
}
