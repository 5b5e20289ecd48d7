import java.util.Random;

/** What the tests share: answers held against those that are due, and texts typed into an object. */
final class Check {
    private static int wrong = 0;
    private static int asked = 0;

    private Check() {
    }

    static void due(String call, long got, long want) {
        asked++;
        if (got != want) {
            wrong++;
            if (wrong <= 50) {
                System.out.println(call + " answered " + got + ", due is " + want);
            }
        }
    }

    static void that(String what, boolean so) {
        due(what, so ? 1 : 0, 1);
    }

    static void end() {
        System.out.println(asked + " answers looked at, " + wrong + " not as due");
        if (wrong != 0) {
            System.exit(1);
        }
    }

    static LassoPaths typed(LassoPaths x, String text) {
        x.clear();
        for (int i = 0; i < text.length(); i++) {
            x.type(text.charAt(i));
        }
        return x;
    }

    static int system(LassoPaths x, String text) {
        return typed(x, text).system();
    }

    static int formula(LassoPaths x, String text) {
        return typed(x, text).formula();
    }

    static LassoPaths made(String system, String formula) {
        LassoPaths x = new LassoPaths();
        that("system \"" + system + "\" is read", system(x, system) >= 0);
        that("formula \"" + formula + "\" is read", formula(x, formula) > 0);
        return x;
    }

    /** An object that was asked of other systems, rows and formulas ahead of these, so that remains would be seen. */
    static LassoPaths used(Random random, String system, String formula) {
        String all = "s7;s6;s5;s3;s7;m0 0 1;m1 0 2;m0 1 3;m1 2 4;m0 3 0;m1 4 0;m0 0 0;m1 3 3;m0 4 4;m1 1 2;";
        LassoPaths x = made(all, randomFormula(random, 16, 3, "abc"));
        x.breaks(random.nextInt(2), 0);
        x.shows(7);
        x.judged(0);
        x.hides();
        x.against(0, random.nextInt(4));
        if (random.nextBoolean()) {
            x.where(random.nextInt(2));
        }
        that("system is read", system(x, system) >= 0);
        that("formula is read", formula(x, formula) > 0);
        return x;
    }

    /** A whole formula of at most so many parts and later parts, of the given leaves. */
    static String randomFormula(Random random, int most, int laters, String leaves) {
        StringBuilder text = new StringBuilder();
        int due = 1;
        int left = laters;
        while (due > 0) {
            int room = most - text.length() - due;
            String letters = leaves;
            if (room >= 1) {
                letters += left > 0 ? "nxfgxfg" : "n";
            }
            if (room >= 2) {
                letters += left > 0 ? "kouukou" : "ko";
            }
            char letter = letters.charAt(random.nextInt(letters.length()));
            text.append(letter);
            if ("xfgu".indexOf(letter) >= 0) {
                left--;
            }
            due += "kou".indexOf(letter) >= 0 ? 1 : "nxfg".indexOf(letter) >= 0 ? 0 : -1;
        }
        return text.toString();
    }
}
