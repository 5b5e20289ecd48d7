/** The edges of what is done and undone: promises 6 to 11, SLOTS, DONE and UNDONE. */
public final class DoneEdgesTest {
    private static final String FIVE = "s0;s1;s2;s4;s7;";
    /** Four things done; room for two more to be known. */
    private static final Run BASE = Run.empty().system("s1;s2;s7;m0 0 1;m1 1 2;m0 2 0;").formula("fb")
            .then(x -> x.stores(1)).formula("ukabc").then(x -> x.keep(1)).shown(1, 6).typed("n");
    private static final Run NEW = Run.empty();
    private static final int[] OUTSIDE_STATES = {-1, 3, 4, 5, 8};

    public static void main(String[] args) {
        labelOfEachState();
        labelRefused();
        moveOfEachKind();
        moveRefused();
        moveFull();
        takenOut();
        takenRefused();
        keptInSlots();
        takenFromSlots();
        slotsRefused();
        eachIsUndone();
        sixAreKnown();
        roundAndRound();
        whatIsNotDone();
        refusedIsNotDone();
        undoneIsGone();
        Check.end();
    }

    private static void due(String sentence, Run run, Run.Call call, int answer) {
        Check.due(sentence, run.answers(call), answer);
    }

    private static void same(String sentence, Run one, Run other) {
        Check.that(sentence, one.seen().equals(other.seen()));
    }

    // ---- promise 6

    private static void labelOfEachState() {
        Run five = NEW.system(FIVE);
        int[] were = {0, 1, 2, 4, 7};
        for (int s = 0; s < 5; s++) {
            for (int label = 0; label <= 7; label++) {
                int state = s;
                int its = label;
                if (label == were[s]) {
                    five.refused("6 STATE: it is that", x -> x.labels(state, its), Run.STATE);
                    continue;
                }
                due("6 what it was", five, x -> x.labels(state, its), were[s]);
                Run changed = five.then(x -> x.labels(state, its));
                for (int other = 0; other < 5; other++) {
                    int asked = other;
                    due("6 that STATE's LABEL alone", changed, x -> x.label(asked), other == s ? label : were[other]);
                }
                changed.refused("6 STATE: it is that now", x -> x.labels(state, its), Run.STATE);
            }
        }
    }

    private static void labelRefused() {
        BASE.bad("6 BAD: no such STATE", (x, s) -> x.labels(s, 0), OUTSIDE_STATES);
        BASE.bad("6 BAD: a LABEL is 0 to 7", (x, label) -> x.labels(0, label), -1, 8, 9, 9 + 256);
        NEW.bad("6 BAD: no STATES", (x, s) -> x.labels(s, 1), 0, 4);
        NEW.system(FIVE).bad("6 BAD: no such STATE of five", (x, s) -> x.labels(s, 1), 5, -1);
        BASE.refused("6 BAD: both", x -> x.labels(3, 8), Run.BAD);
        due("6 the last STATE is taken", BASE, x -> x.labels(2, 0), 7);
        due("6 the greatest LABEL is taken", BASE, x -> x.labels(0, 7), 1);
        due("6 the least LABEL is taken", BASE, x -> x.labels(0, 0), 1);
    }

    // ---- promise 7

    private static void moveOfEachKind() {
        for (int actor = 0; actor < 2; actor++) {
            for (int from = 0; from < 3; from++) {
                for (int to = 0; to < 3; to++) {
                    int a = actor;
                    int f = from;
                    int t = to;
                    due("7 its number", BASE, x -> x.moves(a, f, t), 3);
                    Run moved = BASE.then(x -> x.moves(a, f, t));
                    due("7 one more", moved, x -> x.count(1), 4);
                    due("7 its ACTOR", moved, x -> x.move(3, 0), actor);
                    due("7 from", moved, x -> x.move(3, 1), from);
                    due("7 to (the same one as well)", moved, x -> x.move(3, 2), to);
                    due("7 the same once more", moved, x -> x.moves(a, f, t), 4);
                    same("7 undone", moved.then(LassoPaths::undo), BASE);
                }
            }
        }
    }

    private static void moveRefused() {
        BASE.bad("7 BAD: an ACTOR is 0, 1", (x, actor) -> x.moves(actor, 0, 0), -1, 2);
        BASE.bad("7 BAD: from no such STATE", (x, from) -> x.moves(0, from, 0), OUTSIDE_STATES);
        BASE.bad("7 BAD: to no such STATE", (x, to) -> x.moves(1, 0, to), OUTSIDE_STATES);
        NEW.refused("7 BAD: no STATES", x -> x.moves(0, 0, 0), Run.BAD);
        Run five = NEW.system(FIVE);
        due("7 the last of five STATES", five, x -> x.moves(1, 4, 4), 0);
        five.refused("7 BAD: behind five STATES", x -> x.moves(1, 5, 4), Run.BAD);
        five.refused("7 BAD: behind five STATES", x -> x.moves(1, 4, 5), Run.BAD);
    }

    private static void moveFull() {
        Run run = NEW.system("s1;s2;");
        for (int m = 0; m < 10; m++) {
            due("7 number " + m, run, x -> x.moves(1, 0, 1), m);
            run = run.then(x -> x.moves(1, 0, 1));
        }
        Run full = run;
        full.refused("7 FULL: 10", x -> x.moves(0, 0, 0), Run.FULL);
        full.refused("7 FULL: 10", x -> x.moves(1, 1, 1), Run.FULL);
        full.bad("7 BAD ahead of FULL: ACTOR", (x, actor) -> x.moves(actor, 0, 0), -1, 2);
        full.bad("7 BAD ahead of FULL: from", (x, from) -> x.moves(0, from, 0), -1, 2);
        full.bad("7 BAD ahead of FULL: to", (x, to) -> x.moves(0, 0, to), -1, 2);
        due("7 room again behind takes()", full.then(x -> x.takes(0)), x -> x.moves(0, 0, 0), 9);
        due("7 room again behind undo()", full.then(LassoPaths::undo), x -> x.moves(0, 0, 0), 9);
        due("7 room again behind system()", full.system("s1;"), x -> x.moves(0, 0, 0), 0);
    }

    // ---- promise 8

    private static void takenOut() {
        String text = "s0;s0;s0;s0;s0;m0 0 0;m1 0 1;m0 0 2;m1 0 3;m0 0 4;m1 1 0;m0 1 1;m1 1 2;m0 1 3;m1 1 4;";
        Run full = NEW.system(text);
        for (int m = 0; m < 10; m++) {
            int taken = m;
            due("8 how many are left", full, x -> x.takes(taken), 9);
            Run left = full.then(x -> x.takes(taken));
            for (int i = 0; i < 9; i++) {
                int number = i;
                int was = i < m ? i : i + 1;
                due("8 those behind it have numbers 1 lower: ACTOR", left, x -> x.move(number, 0), was % 2);
                due("8 those behind it have numbers 1 lower: from", left, x -> x.move(number, 1), was / 5);
                due("8 those behind it have numbers 1 lower: to", left, x -> x.move(number, 2), was % 5);
            }
            left.refused("8 none has the last number now", x -> x.move(9, 0), Run.BAD);
            same("8 undone", left.then(LassoPaths::undo), full);
        }
        Run run = full;
        for (int left = 9; left >= 0; left--) {
            int last = left % 2 == 0 ? 0 : left;
            due("8 how many are left", run, x -> x.takes(last), left);
            run = run.then(x -> x.takes(last));
        }
        run.bad("8 BAD: none are left", (x, m) -> x.takes(m), 0, 9, -1);
        due("8 the STATES stay", run, x -> x.count(0), 5);
    }

    private static void takenRefused() {
        BASE.bad("8 BAD: no such MOVE", (x, m) -> x.takes(m), -1, 3, 9, 10);
        NEW.bad("8 BAD: no MOVES", (x, m) -> x.takes(m), 0, -1);
        due("8 the last one is taken", BASE, x -> x.takes(2), 2);
        Run full = NEW.system("s1;" + "m0 0 0;".repeat(10));
        full.bad("8 BAD: behind ten", (x, m) -> x.takes(m), 10, -1);
        due("8 the tenth is taken", full, x -> x.takes(9), 9);
    }

    // ---- promises 9 and 10

    private static void keptInSlots() {
        String most = "u".repeat(3) + "nnnnnnnnn" + "abc0";
        for (int slot = 0; slot < 3; slot++) {
            int kept = slot;
            Run stored = NEW.formula(most).then(x -> x.stores(kept));
            due("9 how many PARTS", NEW.formula(most), x -> x.stores(kept), 16);
            due("9 the FORMULA 1: how many PARTS", NEW, x -> x.stores(kept), 1);
            for (int other = 0; other < 3; other++) {
                int asked = other;
                Run fetched = stored.formula("a").then(x -> x.fetches(asked));
                due("9 that SLOT alone", fetched, x -> x.count(2), other == slot ? 16 : 1);
                due("9 its LATER ones", fetched, x -> x.count(3), other == slot ? 3 : 0);
                due("9 its first PART", fetched, x -> x.part(0, 0), other == slot ? 'u' : '1');
                due("9 its last PART", fetched, x -> x.part(15, 0), other == slot ? '0' : Run.BAD);
            }
            due("9 the FORMULA stays", stored, x -> x.count(2), 16);
            Run again = stored.formula("b").then(x -> x.stores(kept)).formula("c").then(x -> x.fetches(kept));
            due("9 a newer one in its stead", again, x -> x.part(0, 0), 'b');
            due("9 a newer one in its stead", again, x -> x.count(2), 1);
        }
    }

    private static void takenFromSlots() {
        Run three = NEW.formula("na").then(x -> x.stores(0)).formula("kbc").then(x -> x.stores(1))
                .formula("gfua1").then(x -> x.stores(2)).formula("0");
        int[] parts = {2, 3, 5};
        for (int slot = 0; slot < 3; slot++) {
            int asked = slot;
            due("10 how many PARTS", three, x -> x.fetches(asked), parts[slot]);
            Run fetched = three.then(x -> x.fetches(asked));
            due("10 the FORMULA becomes that", fetched, x -> x.count(2), parts[slot]);
            due("10 the FORMULA becomes that", fetched, x -> x.part(0, 0), "nkg".charAt(slot));
            due("10 the SLOT keeps its own", fetched.formula("xxa"), x -> x.fetches(asked), parts[slot]);
            due("10 the SLOT is the same", fetched.formula("xxa").then(x -> x.fetches(asked)), x -> x.part(0, 0), "nkg".charAt(slot));
            same("10 undone", fetched.then(LassoPaths::undo), three.then(x -> x.stores(0), LassoPaths::undo));
        }
    }

    private static void slotsRefused() {
        for (Run run : new Run[] {BASE, NEW}) {
            run.bad("9 BAD: SLOTS 0 to 2", (x, slot) -> x.stores(slot), -1, 3, 256);
            run.bad("10 BAD: SLOTS 0 to 2", (x, slot) -> x.fetches(slot), -1, 3, 256);
        }
    }

    // ---- promise 11

    /** The seven that are undone, each with something that it changes. */
    private static Run[] doneTo(Run run) {
        return new Run[] {
            run.system("s3;s1;s5;m1 0 1;m0 1 2;"), run.formula("kxab"), run.then(x -> x.labels(2, 0)),
            run.then(x -> x.moves(1, 2, 2)), run.then(x -> x.takes(1)), run.then(x -> x.stores(2)),
            run.then(x -> x.fetches(1))};
    }

    private static void eachIsUndone() {
        Run clear = BASE.then(LassoPaths::clear);
        for (Run done : doneTo(clear)) {
            due("11 one more may be UNDONE", done, x -> x.count(6), 5);
            due("11 how many more may be", done, LassoPaths::undo, 4);
            Check.that("11 it changed something", !done.seen().equals(clear.seen()));
            same("11 SYSTEM, FORMULA, SLOTS are as ahead of it", done.then(LassoPaths::undo), clear);
        }
        Run[] once = doneTo(clear);
        for (int i = 0; i < once.length; i++) {
            Run[] twice = doneTo(once[i]);
            for (int j = 0; j < twice.length; j++) {
                // the label is that already
                if (i == 2 && j == 2) {
                    continue;
                }
                due("11 two more may be UNDONE", twice[j], x -> x.count(6), 6);
                same("11 the latest is UNDONE", twice[j].then(LassoPaths::undo), once[i]);
                same("11 then the one ahead of it", twice[j].then(LassoPaths::undo, LassoPaths::undo), clear);
            }
        }
    }

    /** So many labels are given to the one state, one behind the other. */
    private static Run relabelled(int times) {
        Run run = NEW.system("s0;");
        for (int i = 1; i <= times; i++) {
            int label = i % 8;
            run = run.then(x -> x.labels(0, label));
        }
        return run;
    }

    private static void sixAreKnown() {
        for (int done = 0; done <= 20; done++) {
            Run run = relabelled(done);
            int known = Math.min(6, done + 1);
            due("11 6 are known", run, x -> x.count(6), known);
            for (int left = known - 1; left >= 0; left--) {
                due("11 how many more may be", run, LassoPaths::undo, left);
                run = run.then(LassoPaths::undo);
                due("11 how many may be UNDONE", run, x -> x.count(6), left);
                int label = done - (known - left);
                due("11 the LABEL ahead of it", run, x -> x.label(0), label < 0 ? Run.BAD : label % 8);
            }
            run.refused("11 STATE: none (older ones are lost)", LassoPaths::undo, Run.STATE);
        }
        NEW.refused("11 STATE: none", LassoPaths::undo, Run.STATE);
    }

    private static void roundAndRound() {
        Run run = relabelled(9).then(LassoPaths::undo, LassoPaths::undo);
        due("11 two were UNDONE", run, x -> x.label(0), 7);
        run = run.then(x -> x.moves(0, 0, 0), x -> x.moves(1, 0, 0), x -> x.labels(0, 3));
        due("11 and three done: six are known", run, x -> x.count(6), 6);
        run = run.then(LassoPaths::undo, LassoPaths::undo, LassoPaths::undo);
        due("11 back to where it was", run, x -> x.label(0), 7);
        due("11 no MOVES", run, x -> x.count(1), 0);
        due("11 three are left", run, x -> x.count(6), 3);
        run = run.then(LassoPaths::undo, LassoPaths::undo, LassoPaths::undo);
        due("11 the oldest known", run, x -> x.label(0), 4);
        run.refused("11 STATE: none", LassoPaths::undo, Run.STATE);
        due("11 room again", run.then(x -> x.labels(0, 0)), x -> x.count(6), 1);
    }

    /** All other calls, each with a good number. */
    private static final Run.Call[] NOT_DONE = {
        x -> x.type('a'), LassoPaths::clear, x -> x.label(0), x -> x.move(0, 0), x -> x.part(0, 0), x -> x.holds(0, 0),
        x -> x.where(1), x -> x.some(0), x -> x.breaks(0, 0), x -> x.against(0, 0), x -> x.shows(1),
        x -> x.judged(0), LassoPaths::hides, x -> x.keep(0), x -> x.count(6)};

    private static void whatIsNotDone() {
        for (Run.Call call : NOT_DONE) {
            due("11 not DONE", BASE.then(call), x -> x.count(6), 4);
            due("11 not DONE", BASE.then(call), LassoPaths::undo, 3);
            due("11 the one ahead is UNDONE", BASE.then(call, LassoPaths::undo), x -> x.part(0, 0), 'f');
            NEW.then(call).refused("11 not DONE: none", LassoPaths::undo, Run.STATE);
        }
        Run told = BASE.then(x -> x.type('k'), x -> x.shows(7), LassoPaths::undo);
        due("11 THE TEXT is not UNDONE", told, x -> x.count(5), 2);
        due("11 LABELS shown are not UNDONE", told, x -> x.count(4), 3);
        Run emptied = BASE.then(LassoPaths::clear).system("s1;").then(LassoPaths::undo);
        due("11 THE TEXT does not come back", emptied, x -> x.count(5), 0);
        Run hidden = BASE.then(LassoPaths::hides, LassoPaths::undo);
        due("11 LABELS hidden do not come back", hidden, x -> x.count(4), 0);
        Run kept = BASE.then(x -> x.keep(0), LassoPaths::undo);
        due("11 an IMAGE kept is not UNDONE", kept, x -> x.back(0), 3);
        due("11 an IMAGE kept is as it was", kept.then(x -> x.back(0)), x -> x.part(0, 0), 'u');
    }

    private static void refusedIsNotDone() {
        Run.Call[] refused = {
            LassoPaths::system, LassoPaths::formula, x -> x.labels(3, 0), x -> x.labels(0, 1), x -> x.moves(2, 0, 0),
            x -> x.takes(3), x -> x.stores(3), x -> x.fetches(3), x -> x.back(0), x -> x.back(2)};
        for (Run.Call call : refused) {
            Check.that("11 it is refused", BASE.answers(call) < 0);
            due("11 refused, and not DONE", BASE.then(call), x -> x.count(6), 4);
            due("11 the one ahead is UNDONE", BASE.then(call, LassoPaths::undo), x -> x.part(0, 0), 'f');
        }
        Run full = NEW.system("s1;" + "m0 0 0;".repeat(10)).then(x -> x.moves(0, 0, 0));
        due("11 refused as FULL, and not DONE", full, x -> x.count(6), 1);
        Run none = NEW.system("s1;").then(LassoPaths::undo, LassoPaths::undo);
        due("11 undo() refused, and nothing DONE", none, x -> x.count(6), 0);
    }

    private static void undoneIsGone() {
        Run run = NEW.system("s1;").then(x -> x.labels(0, 2), LassoPaths::undo);
        due("11 undo() itself is not UNDONE", run, LassoPaths::undo, 0);
        due("11 undo() itself is not UNDONE", run.then(LassoPaths::undo), x -> x.count(0), 0);
        Run other = run.then(x -> x.labels(0, 4));
        due("11 another way behind it", other, LassoPaths::undo, 1);
        due("11 another way behind it", other.then(LassoPaths::undo), x -> x.label(0), 1);
        same("11 undone and done alike", run.then(x -> x.labels(0, 4)), NEW.system("s1;").then(x -> x.labels(0, 4)));
    }
}
