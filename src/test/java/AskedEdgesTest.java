/** The edges of what is asked and of images: promises 12 to 14, 23 to 25, IMAGES, and the 512 calls of an object. */
public final class AskedEdgesTest {
    private static final Run NEW = Run.empty();
    private static final String TEN = "s0;s1;s2;s4;s7;m0 0 0;m1 0 1;m0 0 2;m1 0 3;m0 0 4;m1 1 0;m0 1 1;m1 1 2;m0 1 3;m1 1 4;";
    private static final Run BASE = NEW.system("s1;s2;s7;m0 0 1;m1 1 2;m0 2 0;").formula("fb")
            .then(x -> x.stores(1)).formula("ukabc").shown(1, 6).typed("n");

    public static void main(String[] args) {
        labelAsked();
        moveAsked();
        partAsked();
        partsOfSixteen();
        keptAndBack();
        imagesRefused();
        imagesAreTwo();
        imageIsACopy();
        nothingElseInImages();
        nothingUndoneBehindBack();
        toldAndAllElseStays();
        counted();
        lastCall();
        Check.end();
    }

    private static void due(String sentence, Run run, Run.Call call, int answer) {
        Check.due(sentence, run.answers(call), answer);
    }

    private static void same(String sentence, Run one, Run other) {
        Check.that(sentence, one.seen().equals(other.seen()));
    }

    // ---- promises 12 to 14

    private static void labelAsked() {
        int[] labels = {0, 1, 2, 4, 7};
        Run five = NEW.system(TEN);
        for (int s = 0; s < 5; s++) {
            int asked = s;
            five.asked("12 the LABEL of a STATE", x -> x.label(asked), labels[s]);
        }
        five.bad("12 BAD: behind five STATES", (x, s) -> x.label(s), -1, 5);
        BASE.bad("12 BAD: behind three STATES", (x, s) -> x.label(s), -1, 3, 4, 5);
        NEW.bad("12 BAD: no STATES", (x, s) -> x.label(s), -1, 0);
        NEW.system(TEN).system("s3;").bad("12 BAD: a smaller SYSTEM", (x, s) -> x.label(s), 1, 4);
    }

    private static void moveAsked() {
        Run ten = NEW.system(TEN);
        for (int m = 0; m < 10; m++) {
            int asked = m;
            ten.asked("13 0 its ACTOR", x -> x.move(asked, 0), m % 2);
            ten.asked("13 1 from", x -> x.move(asked, 1), m / 5);
            ten.asked("13 2 to", x -> x.move(asked, 2), m % 5);
        }
        for (int what = 0; what < 3; what++) {
            int told = what;
            ten.bad("13 BAD: behind ten MOVES", (x, m) -> x.move(m, told), -1, 10);
            BASE.bad("13 BAD: behind three MOVES", (x, m) -> x.move(m, told), -1, 3, 9);
            NEW.bad("13 BAD: no MOVES", (x, m) -> x.move(m, told), -1, 0);
        }
        BASE.bad("13 BAD: 0, 1, 2", (x, what) -> x.move(0, what), -1, 3);
        BASE.refused("13 BAD: both", x -> x.move(3, 3), Run.BAD);
        NEW.system(TEN).system("s3;m0 0 0;").bad("13 BAD: a smaller SYSTEM", (x, m) -> x.move(m, 0), 1, 9);
    }

    private static void parts(String letters, int[] with, int[] in) {
        Run run = NEW.formula(letters);
        int last = letters.length();
        for (int p = 0; p < last; p++) {
            int asked = p;
            String of = letters + " PART " + p;
            run.asked("14 0 its letter: " + of, x -> x.part(asked, 0), letters.charAt(p));
            run.asked("14 1 how many PARTS it has with itself: " + of, x -> x.part(asked, 1), with[p]);
            run.asked("14 2 the PART in which it is just so: " + of, x -> x.part(asked, 2), in[p]);
            run.asked("14 3 whether it is a LATER one: " + of, x -> x.part(asked, 3), "xfgu".indexOf(letters.charAt(p)) >= 0 ? 1 : 0);
        }
        for (int what = 0; what < 4; what++) {
            int told = what;
            run.bad("14 BAD: no such PART", (x, p) -> x.part(p, told), -1, last, 16);
        }
        run.bad("14 BAD: 0 to 3", (x, what) -> x.part(0, what), -1, 4);
        run.refused("14 BAD: both", x -> x.part(last, 4), Run.BAD);
    }

    private static void partAsked() {
        int none = Run.NONE;
        for (char leaf : "abc01".toCharArray()) {
            parts("" + leaf, new int[] {1}, new int[] {none});
        }
        for (char one : "nxfg".toCharArray()) {
            parts(one + "c", new int[] {2, 1}, new int[] {none, 0});
        }
        for (char two : "kou".toCharArray()) {
            parts(two + "01", new int[] {3, 1, 1}, new int[] {none, 0, 0});
            parts(two + "nab", new int[] {4, 2, 1, 1}, new int[] {none, 0, 1, 0});
            parts(two + "anb", new int[] {4, 1, 2, 1}, new int[] {none, 0, 0, 2});
        }
    }

    private static void partsOfSixteen() {
        int none = Run.NONE;
        parts("nnnnnnnnnnnnnnna", new int[] {16, 15, 14, 13, 12, 11, 10, 9, 8, 7, 6, 5, 4, 3, 2, 1},
                new int[] {none, 0, 1, 2, 3, 4, 5, 6, 7, 8, 9, 10, 11, 12, 13, 14});
        parts("nkkkkkkkabc01abc", new int[] {16, 15, 13, 11, 9, 7, 5, 3, 1, 1, 1, 1, 1, 1, 1, 1},
                new int[] {none, 0, 1, 2, 3, 4, 5, 6, 7, 7, 6, 5, 4, 3, 2, 1});
        parts("nkaobkcoakbocuab", new int[] {16, 15, 1, 13, 1, 11, 1, 9, 1, 7, 1, 5, 1, 3, 1, 1},
                new int[] {none, 0, 1, 1, 3, 3, 5, 5, 7, 7, 9, 9, 11, 11, 13, 13});
        Run smaller = NEW.formula("nnnnnnnnnnnnnnna").formula("xb");
        smaller.bad("14 BAD: a smaller FORMULA", (x, p) -> x.part(p, 0), 2, 15);
        smaller.asked("14 a smaller FORMULA", x -> x.part(0, 1), 2);
    }

    // ---- promises 23 and 24

    private static void keptAndBack() {
        for (int states = 0; states <= 5; states++) {
            Run run = NEW.system("s1;".repeat(states));
            for (int image = 0; image < 2; image++) {
                int kept = image;
                due("23 STATES", run, x -> x.keep(kept), states);
                Run other = run.then(x -> x.keep(kept)).system("s2;s2;").formula("na");
                due("24 STATES", other, x -> x.back(kept), states);
                due("24 as the IMAGE has it", other.then(x -> x.back(kept)), x -> x.count(0), states);
                due("24 as the IMAGE has it", other.then(x -> x.back(kept)), x -> x.part(0, 0), '1');
            }
        }
        Run kept = BASE.then(x -> x.keep(0));
        Run changed = kept.then(x -> x.labels(0, 0), x -> x.takes(0), x -> x.fetches(1), x -> x.stores(0), x -> x.stores(2));
        Check.that("24 it was changed", !changed.seen().equals(kept.seen()));
        same("24 all of that becomes as an IMAGE has it", changed.then(x -> x.back(0)), kept.then(x -> x.back(0)));
    }

    private static void imagesRefused() {
        for (Run run : new Run[] {NEW, BASE, BASE.then(x -> x.keep(0), x -> x.keep(1))}) {
            run.bad("23 BAD: IMAGES 0, 1", (x, image) -> x.keep(image), -1, 2, 256);
            run.bad("24 BAD: IMAGES 0, 1", (x, image) -> x.back(image), -1, 2, 256);
        }
        for (int image = 0; image < 2; image++) {
            int none = image;
            int other = 1 - image;
            NEW.refused("24 STATE: none was kept", x -> x.back(none), Run.STATE);
            BASE.refused("24 STATE: none was kept", x -> x.back(none), Run.STATE);
            BASE.then(x -> x.keep(other)).refused("24 STATE: just the other was kept", x -> x.back(none), Run.STATE);
            due("24 the other is taken", BASE.then(x -> x.keep(other)), x -> x.back(other), 3);
        }
        due("24 one without STATES was kept", NEW.then(x -> x.keep(0)), x -> x.back(0), 0);
        Run refused = BASE.then(x -> x.keep(2), x -> x.keep(-1));
        refused.refused("24 STATE: a refused keep() keeps none", x -> x.back(0), Run.STATE);
    }

    private static void imagesAreTwo() {
        Run two = NEW.system("s1;").then(x -> x.keep(0)).system("s2;s4;").then(x -> x.keep(1)).system("s7;s7;s7;");
        due("24 the one", two, x -> x.back(0), 1);
        due("24 the other", two, x -> x.back(1), 2);
        due("24 the one behind the other", two.then(x -> x.back(1), x -> x.back(0)), x -> x.label(0), 1);
        due("24 the other behind the one", two.then(x -> x.back(0), x -> x.back(1)), x -> x.label(0), 2);
        due("24 the same once more", two.then(x -> x.back(0)).system("s5;s5;"), x -> x.back(0), 1);
        Run newer = two.then(x -> x.keep(0));
        due("23 a newer one in its stead", newer.system(""), x -> x.back(0), 3);
        due("23 the other stays", newer, x -> x.back(1), 2);
    }

    private static void imageIsACopy() {
        Run kept = BASE.then(x -> x.keep(0));
        Run.Call[] doings = {
            x -> x.labels(0, 0), x -> x.moves(0, 0, 0), x -> x.takes(0), x -> x.stores(0), x -> x.fetches(1),
            LassoPaths::undo};
        for (Run.Call doing : doings) {
            same("23 an IMAGE is not changed later", kept.then(doing, x -> x.back(0)), kept.then(x -> x.back(0)));
            Run behind = kept.then(x -> x.back(0), doing, x -> x.back(0));
            same("24 an IMAGE is not changed behind back()", behind, kept.then(x -> x.back(0)));
        }
        Run told = kept.then(LassoPaths::clear).system("s5;").formula("gc").typed("n").then(x -> x.back(0));
        same("23 an IMAGE is not changed by what is told", told, kept.then(x -> x.back(0)));
    }

    private static void nothingElseInImages() {
        Run run = BASE.then(x -> x.keep(0), LassoPaths::clear, LassoPaths::hides, x -> x.type('a'), x -> x.shows(3),
                x -> x.shows(5), x -> x.shows(0));
        Run back = run.then(x -> x.back(0));
        due("24 THE TEXT is not in an IMAGE", back, x -> x.count(5), 1);
        due("24 THE TEXT is not in an IMAGE", back, LassoPaths::formula, 1);
        due("24 LABELS shown are not in an IMAGE", back, x -> x.count(4), 3);
        due("24 the LABELS shown are the later ones", back.then(LassoPaths::clear).formula("xc"), x -> x.judged(0), 1);
        Run two = BASE.then(x -> x.keep(1), x -> x.keep(0), x -> x.back(0));
        due("24 the other IMAGE is not in an IMAGE", two, x -> x.back(1), 3);
        Run later = BASE.then(x -> x.keep(0), x -> x.labels(0, 0), x -> x.keep(1), x -> x.back(0));
        due("24 the other IMAGE stays as it is", later.then(x -> x.back(1)), x -> x.label(0), 0);
    }

    private static void nothingUndoneBehindBack() {
        Run kept = BASE.then(x -> x.keep(0));
        due("23 keep() leaves what may be UNDONE", kept, x -> x.count(6), 4);
        Run back = kept.then(x -> x.back(0));
        due("24 nothing can be UNDONE behind back()", back, x -> x.count(6), 0);
        back.refused("24 nothing can be UNDONE behind back()", LassoPaths::undo, Run.STATE);
        Run six = back;
        for (int i = 1; i <= 7; i++) {
            int actor = i % 2;
            six = six.then(x -> x.moves(actor, 0, 0));
            due("24 what is done behind it can", six, x -> x.count(6), Math.min(6, i));
        }
        Run undone = back.then(x -> x.labels(0, 4), LassoPaths::undo);
        same("24 and no more than that", undone, back);
        kept.refused("24 BAD: all may be UNDONE still", x -> x.back(2), Run.BAD);
        kept.refused("24 STATE: all may be UNDONE still", x -> x.back(1), Run.STATE);
        Run fresh = NEW.then(x -> x.keep(0)).system("s1;").then(x -> x.back(0));
        fresh.refused("24 nothing can be UNDONE behind back()", LassoPaths::undo, Run.STATE);
    }

    private static void toldAndAllElseStays() {
        Run kept = BASE.then(LassoPaths::clear, x -> x.keep(0));
        Run system = kept.system("s4;");
        due("3 a SYSTEM told: the FORMULA stays", system, x -> x.count(2), 5);
        due("3 a SYSTEM told: LABELS shown stay", system, x -> x.count(4), 2);
        due("3 a SYSTEM told: SLOTS stay", system.then(x -> x.fetches(1)), x -> x.part(0, 0), 'f');
        due("3 a SYSTEM told: IMAGES stay", system, x -> x.back(0), 3);
        Run formula = kept.formula("b");
        due("3 a FORMULA told: STATES stay", formula, x -> x.count(0), 3);
        due("3 a FORMULA told: LABELS stay", formula, x -> x.label(2), 7);
        due("3 a FORMULA told: MOVES stay", formula, x -> x.count(1), 3);
        due("3 a FORMULA told: LABELS shown stay", formula, x -> x.count(4), 2);
        due("3 a FORMULA told: SLOTS stay", formula.then(x -> x.fetches(1)), x -> x.part(0, 0), 'f');
        due("3 a FORMULA told: IMAGES stay", formula.then(x -> x.back(0)), x -> x.count(2), 5);
    }

    // ---- promise 25

    private static void counted() {
        BASE.bad("25 BAD: 0 to 6", (x, what) -> x.count(what), -1, 7, 8);
        NEW.bad("25 BAD: 0 to 6", (x, what) -> x.count(what), -1, 7, 8);
        int[] some = {3, 3, 5, 1, 2, 1, 4};
        Run all = NEW.system("").formula("0").system("s1;").system(TEN).formula("xxxnnnnnnnnnnnna").then(x -> x.stores(0))
                .then(x -> x.stores(1)).shown(0, 1, 2, 3, 4, 5, 6, 7).typed("?".repeat(120));
        int[] most = {5, 10, 16, 3, 8, 120, 6};
        for (int what = 0; what < 7; what++) {
            int asked = what;
            NEW.asked("25 nothing told: " + what, x -> x.count(asked), what == 2 ? 1 : 0);
            BASE.asked("25 some: " + what, x -> x.count(asked), some[what]);
            all.asked("25 all that may be: " + what, x -> x.count(asked), most[what]);
        }
        due("25 FULL LABELS shown", all.then(x -> x.shows(1)), x -> x.count(4), 8);
        due("25 FULL letters", all.then(x -> x.type(1)), x -> x.count(5), 120);
        due("25 FULL MOVES", all.then(x -> x.moves(0, 0, 0)), x -> x.count(1), 10);
        due("25 a seventh done", all.then(x -> x.fetches(2)), x -> x.count(6), 6);
        due("25 PARTS of what was fetched", all.then(x -> x.fetches(2)), x -> x.count(2), 1);
        due("25 LATER ones of what was fetched", all.then(x -> x.fetches(2)), x -> x.count(3), 0);
    }

    // ---- the 512 calls

    private static void lastCall() {
        Run run = NEW.system("s0;s1;m0 0 1;m1 1 0;").formula("fa");
        int made = 21 + 3;
        while (made < 511) {
            int turn = made;
            switch (turn % 4) {
                case 0:
                    run = run.then(x -> x.labels(0, turn % 8 == 0 ? 2 : 0));
                    break;
                case 1:
                    run = run.then(x -> x.stores(turn % 3));
                    break;
                case 2:
                    run = run.then(x -> x.breaks(1, 0));
                    break;
                default:
                    run = run.then(x -> x.against(turn % 3, 0));
            }
            made++;
        }
        due("the 512th call is answered: holds", run, x -> x.holds(1, 0), 1);
        due("the 512th call is answered: breaks", run, x -> x.breaks(0, 0), Run.NONE);
        due("the 512th call is answered: against", run, x -> x.against(0, 0), 1);
        due("the 512th call is answered: undo", run, LassoPaths::undo, 5);
        due("the 512th call is answered: count", run, x -> x.count(6), 6);
    }
}
