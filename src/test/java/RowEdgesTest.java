/** The edges of what a PART is, of formulas against one another and of rows shown: promises 19 to 22 and 2, 3. */
public final class RowEdgesTest {
    private static final Run NEW = Run.empty();
    private static final String[] LATERS = {"a", "xa", "fxa", "ufaxb"};
    private static final int A = 1;
    private static final int B = 2;
    private static final int C = 4;

    public static void main(String[] args) {
        partsOfNow();
        next();
        someTime();
        always();
        until();
        untilOfLaters();
        againstFourWhats();
        againstAllLabels();
        againstFull();
        againstRefused();
        shown();
        hidden();
        judgedFromKth();
        judgedRefused();
        nothingIsChanged();
        Check.end();
    }

    private static void due(String sentence, Run run, Run.Call call, int answer) {
        Check.due(sentence, run.answers(call), answer);
    }

    /** Whether the formula is so of this row, from its k-th label on again and again. */
    private static void judged(String sentence, String formula, int k, int so, int... row) {
        String of = sentence + ": " + formula;
        due(of, NEW.shown(row).formula(formula), x -> x.judged(k), so);
        due("not " + of, NEW.shown(row).formula("n" + formula), x -> x.judged(k), 1 - so);
        if (row.length <= 5) {
            asPath(of, formula, k, so, row);
        }
    }

    /** The same row as the only path of a system: it is so of each path and of some one, or of none. */
    private static void asPath(String of, String formula, int k, int so, int... row) {
        StringBuilder system = new StringBuilder();
        for (int label : row) {
            system.append('s').append(label).append(';');
        }
        for (int i = 0; i < row.length; i++) {
            int to = i + 1 < row.length ? i + 1 : k;
            system.append('m').append(i % 2).append(' ').append(i).append(' ').append(to).append(';');
        }
        Run run = NEW.system(system.toString()).formula(formula);
        for (int fair = 0; fair < 2; fair++) {
            int f = fair;
            due("a PATH: " + of, run, x -> x.holds(f, 0), so);
            due("some PATH: " + of, run, x -> x.some(f), so);
            due("where: " + of, run, x -> x.where(f) & 1, so);
            Check.due("a LASSO is found if it is not SO: " + of, run.answers(x -> x.breaks(f, 0)) > 0 ? 1 : 0, 1 - so);
        }
    }

    // ---- what a part is

    private static void partsOfNow() {
        for (int label = 0; label <= 7; label++) {
            int a = label & 1;
            int b = label >> 1 & 1;
            int c = label >> 2 & 1;
            judged("2 a: bit 0", "a", 0, a, label);
            judged("2 b: bit 1", "b", 0, b, label);
            judged("2 c: bit 2", "c", 0, c, label);
            judged("2 1: so", "1", 0, 1, label);
            judged("2 0: not", "0", 0, 0, label);
            judged("2 n: E is not", "na", 0, 1 - a, label);
            judged("2 n n", "nna", 0, a, label);
            judged("2 k: both are", "kab", 0, a & b, label);
            judged("2 k: both are", "kcb", 0, c & b, label);
            judged("2 o: one of both is at least", "oab", 0, a | b, label);
            judged("2 o: one of both is at least", "onac", 0, (1 - a) | c, label);
            judged("2 at its first place", "a", 1, a, label, 7 - label);
        }
    }

    private static void next() {
        judged("2 x: the next place, not this one", "xa", 1, 0, A, 0);
        judged("2 x: the next place, not a later one", "xa", 2, 0, 0, 0, A);
        judged("2 x: the next place", "xa", 2, 1, 0, A, 0);
        judged("2 x: behind the last comes the k-th", "xxa", 0, 1, A, 0);
        judged("2 x: behind the last comes the k-th", "xxa", 1, 0, A, 0);
        judged("2 x: one place, round", "xa", 0, 1, A);
        judged("2 x: three on", "xxxa", 1, 1, 0, A, 0);
        judged("2 x: three on", "xxxa", 0, 0, 0, A, 0);
        judged("2 x of 0", "x0", 0, 0, A);
        judged("2 x of 1", "x1", 0, 1, A);
        judged("2 n x and x n are the same", "nxa", 1, 1, A, 0);
    }

    private static void someTime() {
        judged("2 f: so there", "fa", 1, 1, A, 0);
        judged("2 f: at some later place", "fa", 2, 1, 0, 0, A);
        judged("2 f: at no place", "fa", 0, 0, 0, B, C);
        judged("2 f: not at a place ahead", "xfa", 1, 0, A, 0);
        judged("2 f: at a place that comes again", "xfa", 0, 1, A, 0);
        judged("2 f: the eighth place", "fa", 7, 1, 0, 0, 0, 0, 0, 0, 0, A);
        judged("2 f of 0", "f0", 0, 0, A);
    }

    private static void always() {
        judged("2 g: there and at each later one", "ga", 0, 1, A, A);
        judged("2 g: not there", "ga", 1, 0, 0, A);
        judged("2 g: not at the last", "ga", 0, 0, A, A, 0);
        judged("2 g: not at the eighth place", "ga", 7, 0, A, A, A, A, A, A, A, 0);
        judged("2 g: a place ahead does not matter", "xga", 1, 1, 0, A);
        judged("2 g: a place that comes again does", "xga", 0, 0, 0, A);
        judged("2 g of 1", "g1", 0, 1, 0);
        judged("2 f g: from some place on", "fga", 2, 1, 0, 0, A);
        judged("2 f g: from no place on", "fga", 1, 0, 0, 0, A);
        judged("2 g f: again and again", "gfa", 0, 1, A, 0, 0);
        judged("2 g f: just once", "gfa", 1, 0, A, 0, 0);
    }

    private static void until() {
        judged("2 u: E at once, D never", "uab", 1, 1, B, 0);
        judged("2 u: D at each place ahead of that one", "uab", 2, 1, A, A, B);
        judged("2 u: D need not be at that one", "uab", 1, 1, A, B);
        judged("2 u: D not at one place ahead", "uab", 2, 0, A, 0, B);
        judged("2 u: D not at the first place", "uab", 1, 0, 0, B);
        judged("2 u: D not just ahead of that one", "uab", 3, 0, A, A, 0, B);
        judged("2 u: E never, D for ever", "uab", 0, 0, A, A);
        judged("2 u: E never, D for a while", "uab", 1, 0, A, 0);
        judged("2 u: D behind that one does not matter", "uab", 2, 1, A, B, 0);
        judged("2 u: the first E is enough", "uab", 3, 1, A, B, 0, B);
        judged("2 u: at the eighth place", "uab", 7, 1, A, A, A, A, A, A, A, B);
        judged("2 u: at the eighth place, D not at the seventh", "uab", 7, 0, A, A, A, A, A, A, 0, B);
        judged("2 u: round to a place that was ahead", "xuab", 0, 1, B, A, A);
        judged("2 u: not round to a place that was ahead", "xuab", 1, 0, B, A, A);
        judged("2 u 1 E is f E", "u1b", 1, 1, 0, B);
        judged("2 u D 0 is never", "ua0", 0, 0, A);
        judged("2 u D 1 is always", "u01", 0, 1, 0);
        judged("2 u: D is told first", "uab", 0, 0, A);
        judged("2 u: E is told behind it", "uba", 0, 1, A);
    }

    private static void untilOfLaters() {
        judged("2 u of g", "ubga", 2, 1, B, B, A);
        judged("2 u of g: D ends too early", "ubga", 2, 0, B, 0, A);
        judged("2 u of x as D", "uxab", 2, 1, 0, A, A + B);
        judged("2 u of x as D", "uxab", 3, 0, 0, A, 0, B);
        judged("2 u of x as D: not at the first place", "uxab", 1, 1, 0, A + B);
        judged("2 u in u", "uuabc", 3, 0, A, B, A, C);
        judged("2 u in u", "uuabc", 3, 1, A, A, B, C);
        judged("2 u in u as E", "uaubc", 3, 1, A, B, B, C);
        judged("2 u in u as E", "uaubc", 3, 0, B, A, B, C);
    }

    // ---- promise 19

    private static void against(String formula, String kept, int same, int forth, int backAgain, int both) {
        int[] answers = {same, forth, backAgain, both};
        for (int slot = 0; slot < 3; slot++) {
            int asked = slot;
            Run run = NEW.formula(kept).then(x -> x.stores(asked)).formula(formula);
            for (int what = 0; what < 4; what++) {
                int w = what;
                due("19 " + formula + " against " + kept + " what " + what, run, x -> x.against(asked, w), answers[what]);
            }
        }
    }

    private static void againstFourWhats() {
        against("a", "a", 1, 1, 1, 1);
        against("1", "1", 1, 1, 1, 1);
        against("0", "0", 1, 1, 1, 0);
        against("kana", "gkbnb", 1, 1, 1, 0);
        against("1", "0", 0, 0, 1, 0);
        against("0", "1", 0, 1, 0, 0);
        against("a", "na", 0, 0, 0, 0);
        against("a", "b", 0, 0, 0, 1);
        against("kab", "a", 0, 1, 0, 1);
        against("a", "kab", 0, 0, 1, 1);
        against("ga", "fa", 0, 1, 0, 1);
        against("fa", "ga", 0, 0, 1, 1);
        against("ga", "nfna", 1, 1, 1, 1);
        against("fga", "gna", 0, 0, 0, 0);
        against("gfa", "fa", 0, 1, 0, 1);
        against("xa", "a", 0, 0, 0, 1);
        against("xga", "ga", 0, 0, 1, 1);
        against("uab", "fb", 0, 1, 0, 1);
        against("uab", "obkaxb", 0, 0, 1, 1);
        against("uab", "obxb", 0, 0, 0, 1);
        against("u1b", "fb", 1, 1, 1, 1);
        against("ua0", "0", 1, 1, 1, 0);
        against("nxa", "xna", 1, 1, 1, 1);
        against("fa", "oaxfa", 1, 1, 1, 1);
        against("ga", "kaxga", 1, 1, 1, 1);
        against("ffa", "fa", 1, 1, 1, 1);
        against("gga", "ga", 1, 1, 1, 1);
        against("gfa", "1", 0, 1, 0, 1);
        against("fga", "0", 0, 0, 1, 0);
    }

    /** The rows are all rows: no system, no shown label, no fairness narrows them. */
    private static void againstAllLabels() {
        for (int label = 0; label <= 7; label++) {
            String just = "kk" + ((label & 1) != 0 ? "a" : "na") + ((label & 2) != 0 ? "b" : "nb") + ((label & 4) != 0 ? "c" : "nc");
            against("g" + just, "0", 0, 0, 1, 0);
            against("g" + just, "1", 0, 1, 0, 1);
            against(just, "x" + just, 0, 0, 0, 1);
            against("n" + just, "1", 0, 1, 0, 1);
            for (String laters : new String[] {"ggg", "fff", "xxx", "fgx", "gfg", "u0u0u0"}) {
                against(laters + just, "1", 0, 1, 0, 1);
                against("n" + laters + just, "1", 0, 1, 0, 1);
                judged("2 at each of eight places", laters + just, 7, 1, label, label, label, label, label, label, label, label);
            }
        }
        Run run = NEW.system("s1;").shown(1).formula("ga");
        due("19 not the SYSTEM's rows alone", run, x -> x.against(0, 2), 0);
        Run other = NEW.system("s1;").shown(1).formula("gb");
        due("19 not the SYSTEM's rows alone", other, x -> x.against(0, 3), 1);
    }

    private static void againstFull() {
        for (int mine = 0; mine <= 3; mine++) {
            for (int its = 0; its <= 3; its++) {
                Run run = NEW.formula(LATERS[its]).then(x -> x.stores(1)).formula(LATERS[mine]);
                for (int what = 0; what < 4; what++) {
                    int w = what;
                    if (mine + its > 3) {
                        run.refused("19 FULL: more than 3 LATER PARTS together", x -> x.against(1, w), Run.FULL);
                    } else {
                        Check.that("19 3 LATER PARTS together", run.answers(x -> x.against(1, w)) >= 0);
                    }
                }
                if (mine + its > 3) {
                    run.bad("19 BAD ahead of FULL: SLOT", (x, slot) -> x.against(slot, 0), -1, 3);
                    run.bad("19 BAD ahead of FULL: what", (x, what) -> x.against(1, what), -1, 4);
                }
                due("19 another SLOT", run, x -> x.against(0, 1), 1);
            }
        }
        due("19 the same FORMULA counts twice", NEW.formula("ffa").then(x -> x.stores(0)), x -> x.against(0, 0), Run.FULL);
    }

    private static void againstRefused() {
        Run run = NEW.system("s1;").formula("fa").then(x -> x.stores(2)).formula("na");
        for (Run each : new Run[] {NEW, run}) {
            each.bad("19 BAD: SLOTS 0 to 2", (x, slot) -> x.against(slot, 0), -1, 3);
            each.bad("19 BAD: what 0 to 3", (x, what) -> x.against(0, what), -1, 4);
            each.refused("19 BAD: both", x -> x.against(3, 4), Run.BAD);
        }
        due("19 no STATES are needed", NEW, x -> x.against(2, 3), 1);
    }

    // ---- promises 20 to 22

    private static void shown() {
        for (int label = 0; label <= 7; label++) {
            int told = label;
            due("20 a LABEL 0 to 7", NEW, x -> x.shows(told), 1);
        }
        Run run = NEW.system("s1;").formula("xb").typed("n");
        for (int many = 1; many <= 8; many++) {
            run.bad("20 BAD: a LABEL is 0 to 7", (x, label) -> x.shows(label), -1, 8);
            int label = 8 - many;
            due("20 how many were", run, x -> x.shows(label), many);
            run = run.shown(label);
            due("20 how many are shown", run, x -> x.count(4), many);
        }
        Run full = run;
        full.refused("20 FULL: 8", x -> x.shows(0), Run.FULL);
        full.refused("20 FULL: 8", x -> x.shows(7), Run.FULL);
        full.bad("20 BAD ahead of FULL", (x, label) -> x.shows(label), -1, 8);
        due("20 room again behind hides()", full.then(LassoPaths::hides), x -> x.shows(7), 1);
        due("20 the same LABEL once more", NEW.shown(3), x -> x.shows(3), 2);
    }

    private static void hidden() {
        for (int many = 0; many <= 8; many++) {
            Run run = NEW.system("s1;").formula("xb").typed("n").then(x -> x.stores(0), x -> x.keep(1));
            Run full = run;
            for (int i = 0; i < many; i++) {
                full = full.shown(i % 8);
            }
            due("21 how many were", full, LassoPaths::hides, many);
            Run bare = full.then(LassoPaths::hides);
            due("21 no LABELS are shown", bare, x -> x.count(4), 0);
            due("21 none were", bare, LassoPaths::hides, 0);
            Check.that("21 nothing else is changed", bare.seen().equals(run.seen()));
            bare.bad("21 none to be JUDGED", (x, k) -> x.judged(k), 0, 7);
        }
        Run anew = NEW.shown(A, A, A).then(LassoPaths::hides).shown(0).formula("fa");
        due("21 what was shown does not come back", anew, x -> x.judged(0), 0);
    }

    private static void judgedFromKth() {
        int[] row = {A, B, C, A + B, B + C, A + C, A + B + C, 0};
        for (int length = 1; length <= 8; length++) {
            for (int place = 0; place < length; place++) {
                int[] marked = new int[length];
                marked[place] = A;
                for (int k = 0; k < length; k++) {
                    judged("22 from the k-th to the last again and again", "gfa", k, place >= k ? 1 : 0, marked);
                    judged("22 the row begins with the first", "fa", k, 1, marked);
                    judged("22 the first", "a", k, place == 0 ? 1 : 0, marked);
                    judged("22 from the k-th alone", "fga", k, place == length - 1 && k == place ? 1 : 0, marked);
                }
            }
        }
        judged("22 eight LABELS, k 7", "fgnoaobc", 7, 1, row);
        judged("22 eight LABELS, k 6", "fgnoaobc", 6, 0, row);
        judged("22 one LABEL, k 0", "ga", 0, 1, A);
    }

    private static void judgedRefused() {
        Run run = NEW.system("s1;s2;s4;").formula("xb");
        for (int many = 0; many <= 8; many++) {
            run.bad("22 BAD (no k-th one)", (x, k) -> x.judged(k), -1, many, many + 1, 8);
            if (many > 0) {
                int last = many - 1;
                Check.that("22 the last one is taken", run.answers(x -> x.judged(last)) >= 0);
            }
            run = many < 8 ? run.shown(many % 8) : run;
        }
    }

    private static void nothingIsChanged() {
        Run run = NEW.system("s1;s2;m0 0 0;m1 0 1;").formula("fb").then(x -> x.stores(0), x -> x.keep(0)).shown(A, B).typed("na");
        for (int what = 0; what < 4; what++) {
            int w = what;
            run.asked("3 nothing is changed: against", x -> x.against(0, w), 1);
        }
        run.asked("3 nothing is changed: judged", x -> x.judged(0), 1);
        run.asked("3 nothing is changed: judged", x -> x.judged(1), 1);
    }
}
