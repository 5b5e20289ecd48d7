/** Each promise by its number: ordinary calls, the edges that the document names, and wrong inputs. */
public final class PromisesTest {
    private static final int BAD = LassoPaths.BAD;
    private static final int STATE = LassoPaths.STATE;
    private static final int FULL = LassoPaths.FULL;
    private static final int NONE = LassoPaths.NONE;
    private static final int[] WRONG = {Integer.MIN_VALUE, -9, -1, 120, 1000, Integer.MAX_VALUE};

    /** Two states, of which actor 0 stays in the first and actor 1 leaves it for the second, where both stay. */
    private static final String LEAVING = "s1;s2;m0 0 0;m1 0 1;m0 1 1;m1 1 1;";

    public static void main(String[] args) {
        p1NewObject();
        p2Type();
        p3Clear();
        p4System();
        p4SystemFaults();
        p5Formula();
        p5FormulaFaults();
        p6Labels();
        p7Moves();
        p8Takes();
        p9StoresP10Fetches();
        p11Undo();
        p12LabelP13Move();
        p14Part();
        p15Holds();
        p16Where();
        p17Some();
        p18Breaks();
        p18BreaksFair();
        p18BreaksLong();
        p19Against();
        p20ShowsP21Hides();
        p22Judged();
        p23KeepP24Back();
        p25Count();
        Check.end();
    }

    private static void p1NewObject() {
        LassoPaths x = new LassoPaths();
        int[] counts = {0, 0, 1, 0, 0, 0, 0};
        for (int what = 0; what < counts.length; what++) {
            Check.due("1 count " + what, x.count(what), counts[what]);
        }
        Check.due("1 the formula", x.part(0, 0), '1');
        for (int slot = 0; slot < 3; slot++) {
            Check.due("1 slot " + slot, x.against(slot, 0), 1);
            Check.due("1 slot " + slot, x.fetches(slot), 1);
            Check.due("1 slot " + slot, x.part(0, 0), '1');
        }
        Check.due("1 no state", x.label(0), BAD);
        Check.due("1 no image", x.back(0), STATE);
        Check.due("1 nothing undone", new LassoPaths().undo(), STATE);
    }

    private static void p2Type() {
        LassoPaths x = new LassoPaths();
        Check.due("2 least letter", x.type(0), 1);
        Check.due("2 greatest letter", x.type(255), 2);
        Check.due("2 below", x.type(-1), BAD);
        Check.due("2 above", x.type(256), BAD);
        for (int i = 3; i <= 120; i++) {
            Check.due("2 letter " + i, x.type(' '), i);
        }
        Check.due("2 full", x.type(' '), FULL);
        Check.due("2 bad comes first", x.type(256), BAD);
        Check.due("2 nothing is changed", x.count(5), 120);
    }

    private static void p3Clear() {
        LassoPaths x = new LassoPaths();
        Check.due("3 empty", x.clear(), 0);
        Check.typed(x, "abc");
        Check.due("3 three", x.clear(), 3);
        Check.due("3 none left", x.count(5), 0);
        Check.due("3 typed anew", x.type('a'), 1);
        Check.due("3 read anew", x.formula(), 1);
    }

    private static void p4System() {
        LassoPaths x = new LassoPaths();
        Check.due("4 no items", x.system(), 0);
        Check.due("4 blanks alone", Check.system(x, "   "), 0);
        Check.due("4 blanks as they like", Check.system(x, "  s   7 ;s0;m1 0 1;  m 0  1 1  ;  "), 4);
        Check.due("4 label", x.label(0), 7);
        Check.due("4 actor", x.move(0, 0), 1);
        Check.due("4 from", x.move(0, 1), 0);
        Check.due("4 to", x.move(0, 2), 1);
        Check.due("4 the text is empty", x.count(5), 0);
        Check.formula(x, "ga");
        Check.due("4 all it may have", Check.system(x, "s1;s1;s1;s1;s1;m0 0 0;m0 0 1;m0 0 2;m0 0 3;m0 0 4;"
                + "m1 4 0;m1 4 1;m1 4 2;m1 4 3;m1 4 4;"), 15);
        Check.due("4 the formula stays", x.part(0, 0), 'g');
        Check.due("4 a smaller one in its stead", Check.system(x, "s2;"), 1);
        Check.due("4 states", x.count(0), 1);
        Check.due("4 moves", x.count(1), 0);
        Check.due("4 may be undone", x.undo(), 5);
        Check.due("4 states are back", x.count(0), 5);
        Check.due("4 moves are back", x.count(1), 10);
        Check.due("4 the text is not", x.count(5), 0);
    }

    private static void p4SystemFaults() {
        systemFault("s", 1);
        systemFault("s ", 2);
        systemFault("s1", 2);
        systemFault("s1  ", 4);
        systemFault("s8;", 1);
        systemFault("s 10;", 2);
        systemFault("s 00;", 2);
        systemFault("s 01;", 2);
        systemFault("s 100;", 2);
        systemFault("s 99999999999999999999;", 2);
        systemFault("s 4294967296;", 2);
        systemFault("s1 1;", 3);
        systemFault("s11;", 1);
        systemFault("s;", 1);
        systemFault("ss1;", 1);
        systemFault("s1s1;", 2);
        systemFault(";", 0);
        systemFault("  ;", 2);
        systemFault("1", 0);
        systemFault("x", 0);
        systemFault("S1;", 0);
        systemFault("s-1;", 1);
        systemFault("s1;" + (char) 9 + "s1;", 3);
        systemFault("s1;" + (char) 255, 3);
        systemFault("s1;" + (char) 0, 3);
        systemFault("m", 1);
        systemFault("m0", 2);
        systemFault("m0 0 0;", 3);
        systemFault("m2", 1);
        systemFault("s1;m000;", 4);
        systemFault("s1;m0 0 1;s1;", 8);
        systemFault("s1;m0 1 0;s1;", 6);
        systemFault("s1;m0 0;", 7);
        systemFault("s1;m0 0 0 0;", 10);
        systemFault("s1;m0 0 0", 9);
        systemFault("s1;m0 0 0 m", 10);
        systemFault("s1;s1;s1;s1;s1;s9;", 15);
        systemFault("s1;s1;s1;s1;s1; s", 16);
        StringBuilder eleven = new StringBuilder("s1;");
        for (int i = 0; i < 10; i++) {
            eleven.append("m1 0 0;");
        }
        systemFault(eleven + "m", 73);
        systemFault(eleven + " m1 0 0;", 74);
    }

    private static void systemFault(String text, int fault) {
        LassoPaths x = Check.made(LEAVING, "fb");
        Check.due("4 fault of \"" + text + "\"", Check.system(x, text), -10 - fault);
        Check.due("4 the text stays", x.count(5), text.length());
        Check.due("4 states stay", x.count(0), 2);
        Check.due("4 moves stay", x.count(1), 4);
        Check.due("4 nothing more to undo", x.count(6), 2);
        Check.due("4 label stays", x.label(0), 1);
    }

    private static void p5Formula() {
        LassoPaths x = Check.made(LEAVING, "1");
        Check.due("5 one letter", Check.formula(x, "c"), 1);
        Check.due("5 blanks as they like", Check.formula(x, "  k a  u b nc "), 6);
        Check.due("5 later ones", x.count(3), 1);
        Check.due("5 the text is empty", x.count(5), 0);
        Check.due("5 sixteen parts", Check.formula(x, "nnnnnnnnnnnnnnna"), 16);
        Check.due("5 three later ones", Check.formula(x, "uxafb"), 5);
        Check.due("5 three later ones", x.count(3), 3);
        Check.due("5 the system stays", x.count(1), 4);
        Check.due("5 may be undone", x.undo(), 5);
        Check.due("5 the one ahead", x.count(2), 16);
    }

    private static void p5FormulaFaults() {
        formulaFault("", 0);
        formulaFault("   ", 3);
        formulaFault("n", 1);
        formulaFault("n ", 2);
        formulaFault("ka", 2);
        formulaFault("aa", 1);
        formulaFault("a b", 2);
        formulaFault("d", 0);
        formulaFault("kad", 2);
        formulaFault("A", 0);
        formulaFault("2", 0);
        formulaFault("a;", 1);
        formulaFault("a" + (char) 10, 1);
        formulaFault("nnnnnnnnnnnnnnnna", 16);
        formulaFault("nnnnnnnn nnnnnnnn  a", 19);
        formulaFault("nnnnnnnnnnnnnnnn", 16);
        formulaFault("xxxxa", 3);
        formulaFault("kkxafbkgcx a", 9);
        formulaFault("fffu", 3);
    }

    private static void formulaFault(String text, int fault) {
        LassoPaths x = Check.made(LEAVING, "fb");
        Check.due("5 fault of \"" + text + "\"", Check.formula(x, text), -10 - fault);
        Check.due("5 the text stays", x.count(5), text.length());
        Check.due("5 parts stay", x.count(2), 2);
        Check.due("5 the formula stays", x.part(1, 0), 'b');
        Check.due("5 nothing more to undo", x.count(6), 2);
    }

    private static void p6Labels() {
        LassoPaths x = Check.made("s1;s7;", "gc");
        Check.due("6 another", x.labels(1, 0), 7);
        Check.due("6 it is", x.label(1), 0);
        Check.due("6 it is that", x.labels(1, 0), STATE);
        Check.due("6 what it was", x.labels(1, 4), 0);
        Check.due("6 the path is another", x.holds(0, 1), 1);
        for (int wrong : WRONG) {
            Check.due("6 no such state", x.labels(wrong, 0), BAD);
            Check.due("6 no such label", x.labels(0, wrong), BAD);
        }
        Check.due("6 just behind", x.labels(2, 1), BAD);
        Check.due("6 just above", x.labels(0, 8), BAD);
        Check.due("6 refused ones are not undone", x.count(6), 4);
    }

    private static void p7Moves() {
        LassoPaths x = Check.made("s1;s7;", "1");
        for (int i = 0; i < 10; i++) {
            Check.due("7 move " + i, x.moves(i % 2, i / 5, 1), i);
        }
        Check.due("7 full", x.moves(0, 0, 0), FULL);
        Check.due("7 bad comes first", x.moves(2, 0, 0), BAD);
        Check.due("7 actor", x.move(9, 0), 1);
        Check.due("7 from", x.move(9, 1), 1);
        Check.due("7 to", x.move(9, 2), 1);
        x.undo();
        for (int wrong : WRONG) {
            Check.due("7 actor", x.moves(wrong, 0, 0), BAD);
            Check.due("7 from", x.moves(0, wrong, 0), BAD);
            Check.due("7 to", x.moves(0, 0, wrong), BAD);
        }
        Check.due("7 from just behind", x.moves(0, 2, 0), BAD);
        Check.due("7 to just behind", x.moves(0, 0, 2), BAD);
        Check.due("7 none came", x.count(1), 9);
    }

    private static void p8Takes() {
        LassoPaths x = Check.made("s1;s2;s3;m0 0 1;m1 1 2;m0 2 0;", "1");
        Check.due("8 one in the middle", x.takes(1), 2);
        Check.due("8 the one behind it", x.move(1, 1), 2);
        Check.due("8 the one ahead of it", x.move(0, 1), 0);
        Check.due("8 no longer", x.takes(2), BAD);
        for (int wrong : WRONG) {
            Check.due("8 no such move", x.takes(wrong), BAD);
        }
        Check.due("8 the last", x.takes(1), 1);
        Check.due("8 the only", x.takes(0), 0);
        Check.due("8 none left", x.takes(0), BAD);
        Check.due("8 undone", x.undo(), 4);
        Check.due("8 it is back", x.move(0, 2), 1);
    }

    private static void p9StoresP10Fetches() {
        LassoPaths x = Check.made("s1;", "kab");
        Check.due("9 kept", x.stores(2), 3);
        Check.formula(x, "gfa");
        Check.due("9 kept elsewhere", x.stores(0), 3);
        Check.due("10 the first", x.fetches(2), 3);
        Check.due("10 its letter", x.part(0, 0), 'k');
        Check.due("10 its later ones", x.count(3), 0);
        Check.due("10 the untouched", x.fetches(1), 1);
        Check.due("10 the other", x.fetches(0), 3);
        Check.due("10 its later ones", x.count(3), 2);
        Check.formula(x, "a");
        Check.due("9 the slot keeps its own", x.fetches(0), 3);
        for (int wrong : WRONG) {
            Check.due("9 no such slot", x.stores(wrong), BAD);
            Check.due("10 no such slot", x.fetches(wrong), BAD);
        }
        Check.due("9 just behind", x.stores(3), BAD);
        Check.due("10 just behind", x.fetches(3), BAD);
        LassoPaths y = Check.made("", "x a");
        y.stores(1);
        Check.due("9 undone", y.undo(), 2);
        Check.due("9 the slot is as it was", y.fetches(1), 1);
        Check.due("10 undone", y.undo(), 2);
        Check.due("10 the formula is as it was", y.count(2), 2);
        y.fetches(1);
        y.fetches(1);
        Check.due("10 the same once more is done as well", y.count(6), 4);
    }

    private static void p11Undo() {
        LassoPaths x = new LassoPaths();
        Check.due("11 none", x.undo(), STATE);
        Check.system(x, "s0;");
        for (int label = 1; label <= 7; label++) {
            x.labels(0, label);
        }
        Check.due("11 six are known", x.count(6), 6);
        for (int left = 5; left >= 0; left--) {
            Check.due("11 undone", x.undo(), left);
            Check.due("11 the label ahead", x.label(0), left + 1);
        }
        Check.due("11 older ones are lost", x.undo(), STATE);
        Check.due("11 nothing is changed", x.label(0), 1);
        x.shows(3);
        Check.typed(x, "ab");
        x.labels(0, 5);
        x.undo();
        Check.due("11 labels shown stay", x.count(4), 1);
        Check.due("11 the text stays", x.count(5), 2);
    }

    private static void p12LabelP13Move() {
        LassoPaths x = Check.made("s5;s0;m1 0 1;", "1");
        Check.due("12 label", x.label(0), 5);
        Check.due("12 label", x.label(1), 0);
        Check.due("12 just behind", x.label(2), BAD);
        Check.due("13 what", x.move(0, 3), BAD);
        Check.due("13 what", x.move(0, -1), BAD);
        Check.due("13 just behind", x.move(1, 0), BAD);
        for (int wrong : WRONG) {
            Check.due("12 no such state", x.label(wrong), BAD);
            Check.due("13 no such move", x.move(wrong, 0), BAD);
            Check.due("13 no such thing", x.move(0, wrong), BAD);
        }
    }

    private static void p14Part() {
        LassoPaths x = Check.made("", "u k a nb g o 0 1");
        String letters = "ukanbgo01";
        int[] spans = {9, 4, 1, 2, 1, 4, 3, 1, 1};
        int[] outer = {NONE, 0, 1, 1, 3, 0, 5, 6, 6};
        for (int p = 0; p < 9; p++) {
            Check.due("14 letter", x.part(p, 0), letters.charAt(p));
            Check.due("14 parts", x.part(p, 1), spans[p]);
            Check.due("14 just around", x.part(p, 2), outer[p]);
            Check.due("14 later", x.part(p, 3), p == 0 || p == 5 ? 1 : 0);
        }
        Check.due("14 just behind", x.part(9, 0), BAD);
        Check.due("14 what", x.part(0, 4), BAD);
        for (int wrong : WRONG) {
            Check.due("14 no such part", x.part(wrong, 0), BAD);
            Check.due("14 no such thing", x.part(0, wrong), BAD);
        }
    }

    private static void p15Holds() {
        LassoPaths x = Check.made(LEAVING, "fb");
        Check.due("15 one path stays", x.holds(0, 0), 0);
        Check.due("15 no fair one does", x.holds(1, 0), 1);
        Check.due("15 from the other", x.holds(0, 1), 1);
        Check.due("15 just behind", x.holds(0, 2), BAD);
        for (int wrong : WRONG) {
            Check.due("15 fair", x.holds(wrong, 0), BAD);
            Check.due("15 no such state", x.holds(0, wrong), BAD);
        }
        Check.due("15 no states", new LassoPaths().holds(0, 0), BAD);
        // actor 1 has no move from state 1, so a path that goes round owes him nothing
        LassoPaths y = Check.made("s1;s0;s2;m0 0 1;m0 1 0;m1 0 2;", "fb");
        Check.due("15 not from each state", y.holds(1, 0), 0);
        y.moves(1, 1, 2);
        Check.due("15 from each state", y.holds(1, 0), 1);
        LassoPaths z = Check.made("s4;", "g c");
        Check.due("15 staying", z.holds(0, 0), 1);
        Check.due("15 staying is fair", z.holds(1, 0), 1);
        // until needs its end; always with nothing else does not
        LassoPaths u = Check.made("s1;", "uab");
        Check.due("15 until needs its end", u.holds(0, 0), 0);
        Check.formula(u, "oga uab");
        Check.due("15 or for ever", u.holds(0, 0), 1);
    }

    private static void p16Where() {
        LassoPaths x = Check.made(LEAVING, "fb");
        Check.due("16 all paths", x.where(0), 2);
        Check.due("16 fair ones", x.where(1), 3);
        Check.formula(x, "0");
        Check.due("16 nowhere", x.where(0), 0);
        Check.formula(x, "1");
        Check.due("16 everywhere", x.where(0), 3);
        Check.due("16 no states", new LassoPaths().where(1), 0);
        for (int wrong : WRONG) {
            Check.due("16 fair", x.where(wrong), BAD);
            Check.due("16 fair without states", new LassoPaths().where(wrong), BAD);
        }
        LassoPaths y = Check.made("s1;s1;s1;s1;s3;m0 0 1;m0 1 2;m0 2 3;m0 3 4;", "xxb");
        Check.due("16 five states", y.where(0), 4 + 8 + 16);
    }

    private static void p17Some() {
        LassoPaths x = Check.made(LEAVING, "ga");
        Check.due("17 one stays", x.some(0), 1);
        Check.due("17 no fair one does", x.some(1), 0);
        Check.formula(x, "fb");
        Check.due("17 one leaves", x.some(1), 1);
        Check.due("17 no states", new LassoPaths().some(0), STATE);
        for (int wrong : WRONG) {
            Check.due("17 fair", x.some(wrong), BAD);
            Check.due("17 bad comes first", new LassoPaths().some(wrong), BAD);
        }
    }

    private static void breaks(LassoPaths x, int fair, int n, int k, int state) {
        Check.due("18 n", x.breaks(fair, 0), n);
        Check.due("18 k", x.breaks(fair, 1), k);
        Check.due("18 state", x.breaks(fair, 2), state);
    }

    private static void p18Breaks() {
        LassoPaths x = Check.made(LEAVING, "fb");
        breaks(x, 0, 1, 0, 0);
        breaks(x, 1, NONE, NONE, NONE);
        Check.formula(x, "ga");
        breaks(x, 0, 2, 1, 1);
        for (int wrong : WRONG) {
            Check.due("18 fair", x.breaks(wrong, 0), BAD);
            Check.due("18 what", x.breaks(0, wrong), BAD);
            Check.due("18 bad comes first", new LassoPaths().breaks(wrong, 0), BAD);
        }
        Check.due("18 what", x.breaks(0, 3), BAD);
        Check.due("18 no states", new LassoPaths().breaks(0, 0), STATE);
        // of those with n 2 and k 1 the least state; with a way back k 0 is less
        LassoPaths y = Check.made("s1;s0;s0;m0 0 2;m1 0 1;m0 1 1;m0 2 2;", "ga");
        breaks(y, 0, 2, 1, 1);
        y.moves(0, 2, 0);
        breaks(y, 0, 2, 0, 0);
    }

    private static void p18BreaksFair() {
        // both actors can stay, but one state's loop makes the same move each time round
        LassoPaths x = Check.made("s1;m0 0 0;m1 0 0;", "0");
        breaks(x, 0, 1, 0, 0);
        breaks(x, 1, 2, 0, 0);
        // the way to the loop owes nothing to anybody
        LassoPaths y = Check.made("s1;s1;m0 0 0;m0 0 1;m1 0 0;", "0");
        breaks(y, 1, 2, 0, 0);
        LassoPaths z = Check.made("s1;s1;m0 0 0;m1 0 0;m0 0 1;m1 1 1;m0 1 1;", "0");
        breaks(z, 1, 2, 0, 0);
        // staying where there are no moves
        LassoPaths w = Check.made("s1;s1;m0 0 0;m1 0 0;m0 0 1;", "xxx0");
        breaks(w, 1, 2, 0, 0);
    }

    private static void p18BreaksLong() {
        // a ring of five: it must be gone round wholly, or more than once
        String ring = "s1;s0;s0;s0;s2;m0 0 1;m0 1 2;m0 2 3;m0 3 4;m0 4 0;";
        breaks(Check.made(ring, "ngfb"), 0, 5, 0, 0);
        breaks(Check.made(ring, "ngkfafb"), 1, 5, 0, 0);
        // either of two petals alone is shorter, both are needed
        String petals = "s0;s1;s2;s4;s0;m0 0 1;m0 1 0;m0 0 2;m1 2 0;m0 0 3;m1 3 4;m0 4 0;";
        breaks(Check.made(petals, "ngkfbfc"), 0, 5, 0, 0);
        breaks(Check.made(petals, "ngkfakfbc"), 0, NONE, NONE, NONE);
        breaks(Check.made(petals, "nkgfafb"), 0, 4, 0, 0);
        // three waiting parts and both actors' dues at once
        breaks(Check.made("s0;s1;s2;m0 0 1;m0 1 0;m0 0 2;m0 2 0;", "ngkfafb"), 1, 4, 0, 0);
        breaks(Check.made("s0;s1;s2;m0 0 1;m0 1 0;m0 0 2;m0 2 0;m1 0 0;m1 1 1;m1 2 2;", "ngkfafb"), 1, 5, 0, 0);
        // the way to the loop is longer than the loop
        String tail = "s0;s0;s0;s0;s1;m0 0 1;m0 1 2;m0 2 3;m0 3 4;m1 4 4;";
        breaks(Check.made(tail, "nfga"), 0, 5, 4, 4);
    }

    private static void p19Against() {
        LassoPaths x = Check.made("", "fa");
        x.stores(0);
        Check.formula(x, "nga");
        against(x, 0, 0, 0, 0, 1);
        Check.formula(x, "ngna");
        against(x, 0, 1, 1, 1, 1);
        Check.formula(x, "gfa");
        against(x, 0, 0, 1, 0, 1);
        Check.formula(x, "oaxfa");
        against(x, 0, 1, 1, 1, 1);
        Check.formula(x, "gna");
        against(x, 0, 0, 0, 0, 0);
        Check.formula(x, "0");
        against(x, 0, 0, 1, 0, 0);
        against(x, 2, 0, 1, 0, 0);
        Check.formula(x, "gfga");
        Check.due("19 more than three later ones", x.against(0, 0), FULL);
        Check.due("19 three of the formula alone", x.against(1, 1), 1);
        Check.due("19 bad comes first", x.against(0, 4), BAD);
        Check.due("19 just behind", x.against(3, 0), BAD);
        for (int wrong : WRONG) {
            Check.due("19 no such slot", x.against(wrong, 0), BAD);
            Check.due("19 no such thing", x.against(0, wrong), BAD);
        }
        labelsOfAllRows();
        x.stores(2);
        Check.formula(x, "nc");
        against(x, 2, 0, 0, 0, 1);
        Check.formula(x, "xga");
        Check.due("19 five together", x.against(2, 3), FULL);
    }

    /** Each label may come first and behind each other one, whatever the system and the labels shown were. */
    private static void labelsOfAllRows() {
        LassoPaths x = Check.made("s7;s7;m0 0 1;m1 1 0;", "gb");
        x.shows(7);
        for (int first = 0; first < 8; first++) {
            for (int next = 0; next < 8; next++) {
                x.where(1);
                x.judged(0);
                Check.formula(x, justLabel(first));
                x.stores(0);
                Check.formula(x, "x" + justLabel(next));
                against(x, 0, 0, 0, 0, 1);
                Check.formula(x, "n" + justLabel(next));
                Check.due("19 another label", x.against(0, 1), 0);
                Check.due("19 another label", x.against(0, 2), first == next ? 0 : 1);
                Check.due("19 another label", x.against(0, 3), first == next ? 0 : 1);
            }
        }
    }

    private static String justLabel(int label) {
        return "kk" + ((label & 1) != 0 ? "a" : "na") + ((label & 2) != 0 ? "b" : "nb") + ((label & 4) != 0 ? "c" : "nc");
    }

    private static void against(LassoPaths x, int slot, int same, int forth, int andBack, int both) {
        Check.due("19 just the same rows", x.against(slot, 0), same);
        Check.due("19 the slot's of each", x.against(slot, 1), forth);
        Check.due("19 the formula of each", x.against(slot, 2), andBack);
        Check.due("19 both of one", x.against(slot, 3), both);
    }

    private static void p20ShowsP21Hides() {
        LassoPaths x = new LassoPaths();
        Check.due("21 none", x.hides(), 0);
        for (int i = 0; i < 8; i++) {
            Check.due("20 shown", x.shows(7 - i), i + 1);
        }
        Check.due("20 full", x.shows(0), FULL);
        Check.due("20 bad comes first", x.shows(8), BAD);
        Check.due("20 nothing is changed", x.count(4), 8);
        Check.due("21 eight", x.hides(), 8);
        Check.due("21 none are left", x.count(4), 0);
        for (int wrong : WRONG) {
            Check.due("20 no label", x.shows(wrong), BAD);
        }
        Check.due("20 anew", x.shows(1), 1);
    }

    private static void p22Judged() {
        LassoPaths x = Check.made("", "uab");
        Check.due("22 none are shown", x.judged(0), BAD);
        x.shows(1);
        Check.due("22 for ever a", x.judged(0), 0);
        x.shows(2);
        Check.due("22 then b", x.judged(1), 1);
        Check.formula(x, "fga");
        Check.due("22 again and again both", x.judged(0), 0);
        Check.due("22 the last alone", x.judged(1), 0);
        Check.formula(x, "fgb");
        Check.due("22 the last alone", x.judged(1), 1);
        Check.formula(x, "xxa");
        Check.due("22 round", x.judged(0), 1);
        Check.due("22 not round", x.judged(1), 0);
        Check.due("22 just behind", x.judged(2), BAD);
        for (int wrong : WRONG) {
            Check.due("22 no such one", x.judged(wrong), BAD);
        }
    }

    private static void p23KeepP24Back() {
        LassoPaths x = Check.made(LEAVING, "fb");
        x.stores(1);
        Check.due("24 none was kept", x.back(0), STATE);
        Check.due("23 kept", x.keep(0), 2);
        Check.due("23 it is not done", x.count(6), 3);
        Check.due("24 the other was not", x.back(1), STATE);
        Check.system(x, "s5;");
        Check.formula(x, "c");
        x.stores(1);
        x.shows(3);
        Check.typed(x, "abc");
        Check.due("23 the other", x.keep(1), 1);
        Check.due("24 back", x.back(0), 2);
        Check.due("24 moves", x.count(1), 4);
        Check.due("24 label", x.label(0), 1);
        Check.due("24 formula", x.part(0, 0), 'f');
        Check.due("24 slot", x.against(1, 0), 1);
        Check.due("24 labels shown stay", x.count(4), 1);
        Check.due("24 the text stays", x.count(5), 3);
        Check.due("24 nothing can be undone", x.undo(), STATE);
        x.labels(0, 6);
        Check.due("24 what comes behind can", x.undo(), 0);
        x.labels(0, 6);
        Check.due("24 an image stays as it is", x.back(0), 2);
        Check.due("24 label", x.label(0), 1);
        Check.due("24 the other", x.back(1), 1);
        Check.due("24 label", x.label(0), 5);
        Check.due("23 kept anew", x.keep(0), 1);
        Check.due("24 the newer one", x.back(0), 1);
        Check.due("23 just behind", x.keep(2), BAD);
        Check.due("24 just behind", x.back(2), BAD);
        for (int wrong : WRONG) {
            Check.due("23 no such image", x.keep(wrong), BAD);
            Check.due("24 no such image", x.back(wrong), BAD);
        }
    }

    private static void p25Count() {
        LassoPaths x = Check.made(LEAVING, "uxafb");
        x.shows(1);
        Check.typed(x, "a b ");
        int[] counts = {2, 4, 5, 3, 1, 4, 2};
        for (int what = 0; what < counts.length; what++) {
            Check.due("25 count " + what, x.count(what), counts[what]);
        }
        Check.due("25 just behind", x.count(7), BAD);
        for (int wrong : WRONG) {
            Check.due("25 no such thing", x.count(wrong), BAD);
        }
    }
}
