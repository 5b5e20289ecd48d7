/** The edges of THE TEXT, of a SYSTEM and a FORMULA told by it, and of their faults: promises 1 to 5 and "Terms". */
public final class TextEdgesTest {
    private static final String BLANK = " ";
    private static final String WHOLE = " s 1;s2 ; m 0 0 1;m1 1 0; s 7;m0 2 2;  ";
    /** Something of everything, so that it would show if a fault changed it. */
    private static final Run BASE = Run.empty().system("s1;s2;s4;m0 0 1;m1 1 2;m0 2 0;").formula("fb")
            .then(x -> x.stores(1)).formula("ukabc").then(x -> x.keep(1)).shown(1, 6);

    public static void main(String[] args) {
        newObject();
        letters();
        howManyLetters();
        cleared();
        noItems();
        stateLimits();
        labelLimits();
        moveLimits();
        actorLimits();
        statesToldAhead();
        numbers();
        blanksOfSystem();
        lettersOfSystem();
        endsOfSystem();
        placesOfSystemFaults();
        behindSystem();
        partLimits();
        laterLimits();
        lettersOfFormula();
        endsOfFormula();
        placesOfFormulaFaults();
        behindFormula();
        Check.end();
    }

    /** How a new object reads this as a system: items, or -10 less the fault. */
    private static int system(String text) {
        return Run.empty().typed(text).answers(LassoPaths::system);
    }

    private static int formula(String text) {
        return Run.empty().typed(text).answers(LassoPaths::formula);
    }

    private static void system(String sentence, String text, int answer) {
        Check.due(sentence + ": \"" + text + "\"", system(text), answer);
    }

    private static void systemFault(String sentence, String text, int fault) {
        BASE.typed(text).refused(sentence + ": \"" + text + "\"", LassoPaths::system, -10 - fault);
    }

    private static void formula(String sentence, String text, int answer) {
        Check.due(sentence + ": \"" + text + "\"", formula(text), answer);
    }

    private static void formulaFault(String sentence, String text, int fault) {
        BASE.typed(text).refused(sentence + ": \"" + text + "\"", LassoPaths::formula, -10 - fault);
    }

    // ---- promises 1 to 3

    private static void newObject() {
        Run run = Run.empty();
        int[] counts = {0, 0, 1, 0, 0, 0, 0};
        for (int what = 0; what < 7; what++) {
            int asked = what;
            run.asked("1 count " + what, x -> x.count(asked), counts[what]);
        }
        run.asked("1 the FORMULA 1", x -> x.part(0, 0), '1');
        run.asked("1 it has itself alone", x -> x.part(0, 1), 1);
        run.asked("1 it is in no other", x -> x.part(0, 2), Run.NONE);
        run.asked("1 it is no LATER one", x -> x.part(0, 3), 0);
        for (int slot = 0; slot < 3; slot++) {
            int asked = slot;
            Run fetched = run.formula("gfa").then(x -> x.fetches(asked));
            Check.due("1 in each SLOT, too", fetched.answers(x -> x.count(2)), 1);
            Check.due("1 in each SLOT, too", fetched.answers(x -> x.part(0, 0)), '1');
        }
        run.bad("1 no STATES", (x, s) -> x.label(s), 0, 4, -1);
        run.bad("1 no MOVES", (x, m) -> x.move(m, 0), 0, 9, -1);
        run.refused("1 nothing can be undone", LassoPaths::undo, Run.STATE);
        run.refused("1 no image", x -> x.back(0), Run.STATE);
        run.refused("1 no image", x -> x.back(1), Run.STATE);
        run.bad("1 no labels shown", (x, k) -> x.judged(k), 0, 7, -1);
    }

    private static void letters() {
        for (int letter = 0; letter <= 255; letter++) {
            int told = letter;
            Check.due("2 letter " + letter, Run.empty().answers(x -> x.type(told)), 1);
        }
        Run some = BASE.typed("fa");
        some.bad("2 a letter is 0 .. 255", (x, letter) -> x.type(letter), -1, 256, 'a' + 256, 'a' - 256, 65536 + 'a');
        Check.due("2 a refused letter is not told", some.then(x -> x.type(-1), x -> x.type(256)).answers(LassoPaths::formula), 2);
    }

    private static void howManyLetters() {
        LassoPaths x = new LassoPaths();
        for (int many = 1; many <= 120; many++) {
            Check.due("2 how many it has", x.type(many), many);
            Check.due("2 how many it has", x.count(5), many);
        }
        Run all = BASE.typed(BLANK.repeat(118) + "na");
        all.refused("2 FULL: 120", y -> y.type('a'), Run.FULL);
        all.refused("2 FULL: 120", y -> y.type(0), Run.FULL);
        all.refused("2 FULL: 120", y -> y.type(255), Run.FULL);
        all.bad("2 BAD ahead of FULL", (y, letter) -> y.type(letter), -1, 256);
        Check.due("2 the 120 letters are as told", all.then(y -> y.type('a')).answers(LassoPaths::formula), 2);
        Check.due("2 room again behind clear()", all.then(LassoPaths::clear).answers(y -> y.type('a')), 1);
        Check.due("2 room again behind formula()", all.then(LassoPaths::formula).answers(y -> y.type('a')), 1);
        Check.due("2 room for one", BASE.typed(BLANK.repeat(119)).answers(y -> y.type('a')), 120);
    }

    private static void cleared() {
        Check.due("3 none", BASE.answers(LassoPaths::clear), 0);
        Check.due("3 one", BASE.typed("a").answers(LassoPaths::clear), 1);
        Check.due("3 120", BASE.typed("a".repeat(120)).answers(LassoPaths::clear), 120);
        Check.due("3 twice", BASE.typed("a").then(LassoPaths::clear).answers(LassoPaths::clear), 0);
        Check.that("3 nothing else is changed", BASE.typed("nkab").then(LassoPaths::clear).seen().equals(BASE.seen()));
        Check.due("3 what was told is gone", BASE.typed("n").then(LassoPaths::clear).typed("a").answers(LassoPaths::formula), 1);
    }

    // ---- promise 4

    private static void noItems() {
        system("4 ITEMS (none, too)", "", 0);
        system("4 ITEMS (none, too)", BLANK, 0);
        system("4 ITEMS (none, too)", BLANK.repeat(120), 0);
        Run none = BASE.then(LassoPaths::system);
        Check.due("4 no ITEMS: no STATES", none.answers(x -> x.count(0)), 0);
        Check.due("4 no ITEMS: no MOVES", none.answers(x -> x.count(1)), 0);
        Check.due("4 no ITEMS: it is done", none.answers(x -> x.count(6)), 5);
        Check.that("4 no ITEMS: it is undone", none.then(LassoPaths::undo).seen().equals(BASE.seen()));
    }

    private static void stateLimits() {
        for (int states = 1; states <= 5; states++) {
            system("4 STATES (5 at most)", "s7;".repeat(states), states);
        }
        systemFault("4 a sixth s", "s7;".repeat(6), 15);
        systemFault("4 a sixth s", "s7;".repeat(5) + "  s", 17);
        systemFault("4 a sixth s behind a MOVE", "s7;".repeat(5) + "m0 4 4;s7;", 22);
        systemFault("4 a sixth s ahead of a wrong number", "s7;".repeat(5) + "s8;", 15);
    }

    private static void labelLimits() {
        for (int label = 0; label <= 7; label++) {
            system("4 a LABEL 0 to 7", "s" + label + ";", 1);
            int told = label;
            Check.due("4 the LABEL told", Run.empty().system("s" + told + ";").answers(x -> x.label(0)), label);
        }
        systemFault("4 a NUMBER beyond what it may be: LABEL", "s8;", 1);
        systemFault("4 a NUMBER beyond what it may be: LABEL", "s9;", 1);
        systemFault("4 a NUMBER beyond what it may be: LABEL", "s 10;", 2);
        systemFault("4 a NUMBER beyond what it may be: LABEL", "s7;s8;", 4);
    }

    private static void moveLimits() {
        for (int moves = 0; moves <= 10; moves++) {
            system("4 MOVES (10 at most)", "s7;" + "m1 0 0;".repeat(moves), moves + 1);
        }
        String all = "s7;".repeat(5) + "m1 4 0;".repeat(10);
        system("4 all that may be told", all, 15);
        system("4 all that may be told, in 120 letters", all + BLANK.repeat(120 - all.length()), 15);
        systemFault("4 an 11th m", "s7;" + "m1 0 0;".repeat(11), 73);
        systemFault("4 an 11th m", all + " m", 86);
        systemFault("4 an 11th m", "s7;" + "m1 0 0;".repeat(10) + "s1; m0 0 0;", 77);
        system("4 an s behind ten MOVES", "s7;" + "m1 0 0;".repeat(10) + "s1;", 12);
    }

    private static void actorLimits() {
        system("4 ACTOR 0", "s1;m0 0 0;", 2);
        system("4 ACTOR 1", "s1;m1 0 0;", 2);
        systemFault("4 a NUMBER beyond what it may be: ACTOR", "s1;m2 0 0;", 4);
        systemFault("4 a NUMBER beyond what it may be: ACTOR", "s1;m 10 0 0;", 5);
        systemFault("4 a NUMBER beyond what it may be: ACTOR, ahead of the STATES", "s1;m2 9 9;", 4);
    }

    private static void statesToldAhead() {
        for (int states = 1; states <= 5; states++) {
            String told = "s0;".repeat(states);
            int last = states - 1;
            int at = told.length();
            Run run = Run.empty().system(told + "m0 " + last + " " + last + ";");
            Check.due("4 from the last STATE", run.answers(x -> x.move(0, 1)), last);
            Check.due("4 to the last STATE", run.answers(x -> x.move(0, 2)), last);
            systemFault("4 from: STATES told ahead of it", told + "m0 " + states + " 0;", at + 3);
            systemFault("4 to: STATES told ahead of it", told + "m0 0 " + states + ";", at + 5);
        }
        systemFault("4 none told ahead of it", "m0 0 0;s1;", 3);
        systemFault("4 the second told behind it", "s1;m0 1 0;s1;", 6);
        systemFault("4 the second told behind it", "s1;m0 0 1;s1;", 8);
        system("4 the second told ahead of it", "s1;m0 0 0;s1;m0 1 0;m1 0 1;", 5);
    }

    private static void numbers() {
        String[] wrong = {"00", "01", "07", "007", "10", "99", "100", "101", "127", "128", "255", "256", "257", "999",
            "65537", "2147483647", "2147483648", "4294967295", "4294967296", "4294967297", "18446744073709551617",
            "0".repeat(100), "1".repeat(100), "0".repeat(99) + "1", "9".repeat(100)};
        for (String number : wrong) {
            systemFault("4 a NUMBER above 99 or with a 0 ahead of others: LABEL", "s" + number + ";", 1);
            systemFault("4 a NUMBER above 99 or with a 0 ahead of others: ACTOR", "s1;m " + number + " 0 0;", 5);
            systemFault("4 a NUMBER above 99 or with a 0 ahead of others: from", "s1;m0 " + number + " 0;", 6);
            systemFault("4 a NUMBER above 99 or with a 0 ahead of others: to", "s1;m0 0 " + number + ";", 8);
        }
        systemFault("4 a NUMBER where an ITEM begins", "0", 0);
        systemFault("4 a NUMBER where an ITEM begins", "s1; 12;", 4);
        systemFault("4 a NUMBER more: s", "s1 1;", 3);
        systemFault("4 a NUMBER more: s", "s1 100;", 3);
        systemFault("4 a NUMBER more: m", "s1;m0 0 0 0;", 10);
        systemFault("4 a NUMBER less: s", "s;", 1);
        systemFault("4 a NUMBER less: m", "s1;m;", 4);
        systemFault("4 a NUMBER less: m", "s1;m0;", 5);
        systemFault("4 a NUMBER less: m", "s1;m0 0;", 7);
    }

    private static void blanksOfSystem() {
        system("4 blanks needed between two NUMBERS alone", "s1;s2;m0 0 1;m1 1 0;", 4);
        system("4 blanks ahead of, between and behind TOKENS", "  s  1  ;  s  2  ;  m  0  0  1  ;  m  1  1  0  ;  ", 4);
        systemFault("4 a blank is needed between two NUMBERS", "s1;m00 0;", 4);
        systemFault("4 a blank is needed between two NUMBERS", "s1;m0 00;", 6);
        systemFault("4 a blank is needed between two NUMBERS", "s1;s1;m0 11;", 9);
        systemFault("4 a blank ends a NUMBER", "s1 0;", 3);
        for (int other : new int[] {0, 7, 9, 10, 11, 12, 13, 31, 33, 95, 127, 133, 160, 255}) {
            systemFault("4 blanks (32) alone: " + other, "s1" + (char) other + ";", 2);
            systemFault("4 blanks (32) alone: " + other, (char) other + "s1;", 0);
            systemFault("4 blanks (32) alone: " + other, "s1;" + (char) other, 3);
        }
    }

    /** Each letter behind each beginning of an item. */
    private static void lettersOfSystem() {
        for (int code = 0; code <= 255; code++) {
            char letter = (char) code;
            boolean figure = letter >= '0' && letter <= '9';
            boolean blank = letter == ' ';
            String of = "4 letter " + code + " ";
            boolean head = letter == 's' || letter == 'm';
            system(of + "first", "" + letter, head ? -11 : blank ? 0 : -10);
            system(of + "behind an ITEM", "s1;" + letter, head ? -14 : blank ? 1 : -13);
            system(of + "behind s", "s" + letter, blank || figure && letter <= '7' ? -12 : -11);
            system(of + "behind s 1", "s1" + letter, letter == ';' ? 1 : blank ? -13 : figure ? -11 : -12);
            system(of + "behind s 0", "s0" + letter, letter == ';' ? 1 : blank ? -13 : figure ? -11 : -12);
            system(of + "behind s 1 and a blank", "s1 " + letter, letter == ';' ? 1 : blank ? -14 : -13);
            system(of + "behind m", "s1;s1;m" + letter, blank || letter == '0' || letter == '1' ? -18 : -17);
            system(of + "behind m 0", "s1;s1;m0 " + letter, blank || letter == '0' || letter == '1' ? -20 : -19);
            system(of + "behind m 0 0", "s1;s1;m0 0 " + letter, blank || letter == '0' || letter == '1' ? -22 : -21);
            system(of + "behind m 0 0 0", "s1;s1;m0 0 1" + letter, letter == ';' ? 3 : blank ? -23 : figure ? -21 : -22);
        }
    }

    private static void endsOfSystem() {
        int items = 0;
        boolean open = false;
        for (int length = 0; length <= WHOLE.length(); length++) {
            if (length > 0 && WHOLE.charAt(length - 1) != ' ') {
                open = WHOLE.charAt(length - 1) != ';';
                items += open ? 0 : 1;
            }
            String text = WHOLE.substring(0, length);
            if (open) {
                systemFault("4 the text's length, if it ends too early", text, length);
            } else {
                system("4 it ends behind an ITEM", text, items);
            }
        }
        Check.due("4 six ITEMS were told", items, 6);
        systemFault("4 the text's length with the blanks at its end", "s  ", 3);
        systemFault("4 the text's length with the blanks at its end", "s1   ", 5);
        systemFault("4 the text's length: 120", BLANK.repeat(119) + "s", 120);
        systemFault("4 the text's length: 120", "s" + BLANK.repeat(119), 120);
    }

    private static void placesOfSystemFaults() {
        systemFault("4 -10 less FAULT: the first place", ";", 0);
        systemFault("4 -10 less FAULT: the last place", BLANK.repeat(119) + ";", 119);
        systemFault("4 the first TOKEN that can't stand there", "s1;;s9;?", 3);
        systemFault("4 the first TOKEN that can't stand there, not a wrong letter behind it", "s s ?", 2);
        systemFault("4 the first TOKEN that can't stand there, not a wrong number behind it", "m m 100", 2);
        systemFault("4 a wrong letter ahead of an early end", "s1?", 2);
        systemFault("4 an ITEM is ended by ;", "s1s2;", 2);
        systemFault("4 an ITEM is ended by ;", "s1;m0 0 0m0 0 0;", 9);
    }

    private static void behindSystem() {
        Run told = BASE.system("s3;s0;m1 1 0;");
        Check.due("4 THE TEXT is empty then", told.answers(x -> x.count(5)), 0);
        Check.due("4 THE TEXT is empty then", told.answers(LassoPaths::formula), -10);
        Check.due("4 how many ITEMS", BASE.typed("s3;s0;m1 1 0;").answers(LassoPaths::system), 3);
        Check.due("4 the STATES are those told", told.answers(x -> x.count(0)), 2);
        Check.due("4 the MOVES are those told", told.answers(x -> x.count(1)), 1);
        Check.that("4 undone: all is as ahead of it", told.then(LassoPaths::undo).seen().equals(BASE.seen()));
        Run fault = BASE.typed("s3").then(LassoPaths::system);
        Check.due("4 THE TEXT stays and is gone on with", fault.typed(";").answers(LassoPaths::system), 1);
        Run asFormula = BASE.typed("na").then(LassoPaths::system);
        Check.due("4 THE TEXT stays for a FORMULA", asFormula.answers(LassoPaths::formula), 2);
    }

    // ---- promise 5

    private static void partLimits() {
        for (int parts = 1; parts <= 16; parts++) {
            formula("5 16 PARTS at most", "n".repeat(parts - 1) + "a", parts);
        }
        formula("5 16 PARTS at most", "n" + "ko".repeat(3) + "k" + "abc01abc", 16);
        formula("5 16 PARTS in 120 letters", BLANK.repeat(104) + "n".repeat(15) + "a", 16);
        formulaFault("5 a 17th PART", "n".repeat(16) + "a", 16);
        formulaFault("5 a 17th PART", "k" + "n".repeat(15) + "  1a", 18);
        formulaFault("5 a 17th PART that is no last one", "n".repeat(20) + "a", 16);
        formulaFault("5 a 17th PART that is LATER as well", "n".repeat(16) + "xa", 16);
        formulaFault("5 16 PARTS that are no whole one", "n".repeat(16), 16);
        formulaFault("5 16 PARTS that are no whole one", "n".repeat(16) + BLANK, 17);
        formulaFault("5 16 PARTS and one behind", "n".repeat(15) + "ab", 16);
        formulaFault("5 all that may be typed", "n".repeat(120), 16);
    }

    private static void laterLimits() {
        String laters = "xfgu";
        for (char first : laters.toCharArray()) {
            formula("5 one LATER", first + "aa".substring(first == 'u' ? 0 : 1), first == 'u' ? 3 : 2);
            for (char last : laters.toCharArray()) {
                String three = "" + first + last + first;
                int wide = (first == 'u' ? 2 : 0) + (last == 'u' ? 1 : 0);
                formula("5 3 LATER at most", three + "a".repeat(wide + 1), 4 + wide);
                formulaFault("5 a fourth LATER one", three + last + "a".repeat(9), 3);
                formulaFault("5 a fourth LATER one", "k" + three + "a".repeat(wide + 1) + BLANK + last + "a", 6 + wide);
            }
        }
        Check.due("5 three are counted", Run.empty().formula("kxakfbgc").answers(x -> x.count(3)), 3);
        Check.due("5 n, k, o are not LATER", Run.empty().formula("nnkooaabnnc").answers(x -> x.count(3)), 0);
        formulaFault("5 a fourth LATER one behind a whole one", "xxxa u", 5);
    }

    /** Each letter first, inside, and behind a whole one. */
    private static void lettersOfFormula() {
        for (int code = 0; code <= 255; code++) {
            char letter = (char) code;
            String of = "5 letter " + code + " ";
            boolean leaf = "abc01".indexOf(letter) >= 0;
            boolean inner = "nkoxfgu".indexOf(letter) >= 0;
            formula(of + "first", "" + letter, leaf ? 1 : inner || letter == ' ' ? -11 : -10);
            formula(of + "inside", "ka" + letter, leaf ? 3 : inner || letter == ' ' ? -13 : -12);
            formula(of + "behind a whole one", "ka b" + letter, letter == ' ' ? 3 : -14);
            formula(of + "and one PART", letter + "a", letter == ' ' ? 1 : leaf ? -11
                    : "nxfg".indexOf(letter) >= 0 ? 2 : inner ? -12 : -10);
            formula(of + "and two PARTS", letter + "ab", letter == ' ' || leaf ? (leaf ? -11 : -12)
                    : "nxfg".indexOf(letter) >= 0 ? -12 : inner ? 3 : -10);
        }
    }

    private static void endsOfFormula() {
        String whole = "  u k a nb o fc  n 0 ";
        int last = whole.lastIndexOf('0');
        for (int length = 0; length <= whole.length(); length++) {
            String text = whole.substring(0, length);
            if (length <= last) {
                formulaFault("5 the text's length, if it ends too early", text, length);
            } else {
                formula("5 it is whole", text, 10);
            }
        }
        formulaFault("5 nothing told", "", 0);
        formulaFault("5 blanks alone", BLANK, 1);
        formulaFault("5 blanks alone", BLANK.repeat(120), 120);
        formulaFault("5 the text's length: 120", BLANK.repeat(119) + "n", 120);
    }

    private static void placesOfFormulaFaults() {
        formulaFault("5 -10 less FAULT: the first place", "d", 0);
        formulaFault("5 -10 less FAULT: the last place", BLANK.repeat(119) + "d", 119);
        formulaFault("5 the first letter, no blank", "  d", 2);
        formulaFault("5 anything behind a whole one: the first of it", "a  b d", 3);
        formulaFault("5 anything behind a whole one: a letter of none", "a  d", 3);
        formulaFault("5 a letter of none ahead of a fourth LATER one", "xd xxxxa", 1);
        formula("5 the last place", BLANK.repeat(119) + "c", 1);
        formula("5 the first place", "c" + BLANK.repeat(119), 1);
    }

    private static void behindFormula() {
        Run told = BASE.formula("xka 0");
        Check.due("5 THE TEXT is empty then", told.answers(x -> x.count(5)), 0);
        Check.due("5 THE TEXT is empty then", told.answers(LassoPaths::system), 0);
        Check.due("5 how many PARTS", told.answers(x -> x.count(2)), 4);
        Check.that("5 undone: all is as ahead of it", told.then(LassoPaths::undo).seen().equals(BASE.seen()));
        Run same = told.formula("xka 0");
        Check.due("5 the same told again is done as well", same.answers(x -> x.count(6)), 6);
        Run fault = BASE.typed("ka").then(LassoPaths::formula);
        Check.due("5 THE TEXT stays and is gone on with", fault.typed("b").answers(LassoPaths::formula), 3);
        Run asSystem = BASE.typed("s1;").then(LassoPaths::formula);
        Check.due("5 THE TEXT stays for a SYSTEM", asSystem.answers(LassoPaths::system), 1);
    }
}
