/** The edges of paths, fair ones and lassos: promises 15 to 18 and what "Terms", 2 and 3 say of them. */
public final class PathEdgesTest {
    private static final Run NEW = Run.empty();

    public static void main(String[] args) {
        stayingWithoutMoves();
        noStayingWithMoves();
        stayingComesAndGoes();
        labelsAsBits();
        fairOwesWhoHasAMove();
        fairFromEachState();
        fairFromSomePlaceOn();
        fairAgainAndAgain();
        fairWhichIsMade();
        fairBoth();
        holdsOfEach();
        holdsRefused();
        whereBits();
        whereInEachOrder();
        someFromState0();
        breaksLeastN();
        breaksLeastK();
        breaksLeastState();
        breaksNone();
        breaksFairAlikeEachRound();
        breaksLongerThanStates();
        breaksMostDue();
        breaksManyWays();
        breaksRefused();
        nothingIsChanged();
        Check.end();
    }

    private static Run of(String system, String formula) {
        return NEW.system(system).formula(formula);
    }

    private static void due(String sentence, Run run, Run.Call call, int answer) {
        Check.due(sentence, run.answers(call), answer);
    }

    private static void holds(String sentence, String system, String formula, int ofAll, int ofFair) {
        due(sentence + ": of all", of(system, formula), x -> x.holds(0, 0), ofAll);
        due(sentence + ": of fair ones", of(system, formula), x -> x.holds(1, 0), ofFair);
    }

    private static void breaks(String sentence, Run run, int fair, int n, int k, int state) {
        due(sentence + ": n", run, x -> x.breaks(fair, 0), n);
        due(sentence + ": k", run, x -> x.breaks(fair, 1), k);
        due(sentence + ": the STATE", run, x -> x.breaks(fair, 2), state);
    }

    // ---- paths

    private static void stayingWithoutMoves() {
        holds("staying: it comes again", "s1;", "ga", 1, 1);
        holds("staying: it alone comes", "s1;s2;", "fb", 0, 0);
        holds("staying behind a MOVE", "s1;s2;m0 0 1;", "xgb", 1, 1);
        holds("staying is FAIR, nobody has a MOVE", "s1;s2;m0 1 0;m1 1 0;", "ga", 1, 1);
        holds("a MOVE to the same one", "s1;m0 0 0;", "ga", 1, 1);
    }

    private static void noStayingWithMoves() {
        holds("no staying where ACTOR 0 has a MOVE", "s1;s2;m0 0 1;", "xb", 1, 1);
        holds("no staying where ACTOR 1 has a MOVE", "s1;s2;m1 0 1;", "xb", 1, 1);
        holds("each next one by a MOVE from the one ahead", "s1;s2;s4;m0 0 1;m0 0 2;", "xob c", 1, 1);
        holds("each next one by a MOVE from the one ahead", "s1;s2;s4;m0 0 1;m0 0 2;", "xb", 0, 0);
        holds("not by a MOVE to the one ahead", "s1;s2;m0 1 0;", "fb", 0, 0);
        holds("not by a MOVE of another STATE", "s1;s2;s4;m0 0 1;m0 2 0;", "nfc", 1, 1);
    }

    private static void stayingComesAndGoes() {
        Run run = of("s1;s2;m0 0 1;", "xb");
        due("its only MOVE taken out: staying", run.then(x -> x.takes(0)), x -> x.holds(0, 0), 0);
        due("a MOVE added: no staying", run.then(x -> x.takes(0), x -> x.moves(1, 0, 1)), x -> x.holds(0, 0), 1);
        due("taking out is UNDONE: no staying", run.then(x -> x.takes(0), LassoPaths::undo), x -> x.holds(0, 0), 1);
        Run two = of("s1;s2;m0 0 1;m1 0 1;", "xb").then(x -> x.takes(0));
        due("one of two MOVES taken out: no staying", two, x -> x.holds(0, 0), 1);
    }

    private static void labelsAsBits() {
        for (int label = 0; label <= 7; label++) {
            for (int bit = 0; bit < 3; bit++) {
                String letter = "abc".substring(bit, bit + 1);
                int so = label >> bit & 1;
                holds("label " + label + " " + letter, "s" + label + ";", letter, so, so);
                due("not " + letter, of("s" + label + ";", "n" + letter), x -> x.holds(0, 0), 1 - so);
            }
        }
    }

    // ---- fair ones

    private static void fairOwesWhoHasAMove() {
        holds("who has a MOVE makes it some time", "s1;s2;m0 0 0;m1 0 1;", "fb", 0, 1);
        holds("who has a MOVE makes it some time", "s1;s2;m1 0 0;m0 0 1;", "fb", 0, 1);
        holds("one ACTOR may choose his own for ever", "s1;s2;m0 0 0;m0 0 1;", "fb", 0, 0);
        holds("one ACTOR may choose his own for ever", "s1;s2;m1 0 0;m1 0 1;", "fb", 0, 0);
        holds("he may choose among his MOVES", "s1;s2;m0 0 0;m1 0 0;m1 0 1;", "fb", 0, 0);
    }

    private static void fairFromEachState() {
        String ring = "s1;s1;s2;m0 0 1;m0 1 0;";
        holds("he has none in the ring", ring, "fb", 0, 0);
        holds("not from each STATE of it", ring + "m1 0 2;", "fb", 0, 0);
        holds("not from each STATE of it", ring + "m1 1 2;", "fb", 0, 0);
        holds("from each STATE of it", ring + "m1 0 2;m1 1 2;", "fb", 0, 1);
        String three = "s1;s1;s1;s2;m0 0 1;m0 1 2;m0 2 0;m1 0 3;m1 2 3;";
        holds("from all but one of three", three, "fb", 0, 0);
        holds("from all three", three + "m1 1 3;", "fb", 0, 1);
    }

    private static void fairFromSomePlaceOn() {
        holds("none from the first, one from each later", "s1;s1;s2;m0 0 1;m0 1 1;m1 1 2;", "fb", 0, 1);
        holds("one from the first, none from a later one", "s1;s1;s2;m0 0 1;m1 0 2;m0 1 1;", "fb", 0, 0);
        holds("what is ahead of the ring owes nothing", "s1;s1;m0 0 1;m1 0 0;m0 1 1;", "xga", 1, 1);
    }

    private static void fairAgainAndAgain() {
        // once is not enough: state 1 is left by actor 1 alone
        holds("made once is not without end", "s1;s1;s2;m1 0 1;m0 1 1;m1 1 2;", "fb", 0, 1);
        holds("made once each round is", "s1;s1;s2;m0 0 1;m1 1 0;m1 0 2;m0 1 2;", "fb", 0, 0);
        holds("each ACTOR in turn", "s1;s2;m0 0 0;m1 0 1;m0 1 1;m1 1 0;", "gfb", 0, 1);
        holds("each ACTOR in turn", "s1;s2;m0 0 0;m1 0 1;m0 1 1;m1 1 0;", "fga", 0, 0);
    }

    private static void fairWhichIsMade() {
        holds("two MOVES to the same one: either may be made", "s1;s2;m0 0 0;m1 0 0;m0 0 1;m1 0 1;", "fb", 0, 0);
        due("a FAIR PATH is there", of("s1;m0 0 0;m1 0 0;", "ga"), x -> x.some(1), 1);
        due("a FAIR PATH is there", of("s1;m0 0 0;m1 0 0;", "0"), x -> x.holds(1, 0), 0);
        holds("the same MOVE told twice is one ACTOR's", "s1;s2;m0 0 0;m0 0 0;m1 0 1;", "fb", 0, 1);
    }

    private static void fairBoth() {
        holds("both must make theirs", "s1;s1;s2;m0 0 1;m1 0 0;m0 1 2;m1 1 1;", "fb", 0, 1);
        due("some FAIR PATH is wherever a PATH is", of("s1;s1;m0 0 0;m1 0 1;m0 1 0;m1 1 1;", "1"), x -> x.some(1), 1);
        Run swapped = of("s1;s2;m1 0 0;m0 0 1;", "ga");
        due("all PATHS: one stays", swapped, x -> x.some(0), 1);
        due("FAIR ones: none stays", swapped, x -> x.some(1), 0);
    }

    // ---- promises 15 to 17

    private static void holdsOfEach() {
        String system = "s1;s3;s2;m0 0 1;m0 0 2;m0 1 1;m0 2 2;";
        holds("15 SO of each", system, "xb", 1, 1);
        holds("15 not SO of one", system, "xga", 0, 0);
        Run run = of(system, "ga");
        due("15 from the first", run, x -> x.holds(0, 0), 0);
        due("15 from the second", run, x -> x.holds(0, 1), 1);
        due("15 from the last", run, x -> x.holds(0, 2), 0);
        Run five = of("s0;s0;s0;s0;s1;m0 4 4;", "ga");
        for (int s = 0; s < 5; s++) {
            int from = s;
            due("15 from STATE " + s, five, x -> x.holds(0, from), s == 4 ? 1 : 0);
            due("15 fair, from STATE " + s, five, x -> x.holds(1, from), s == 4 ? 1 : 0);
        }
        due("15 from a STATE that 0 does not come to", of("s1;s2;s4;m0 2 1;", "xb"), x -> x.holds(0, 2), 1);
    }

    private static void holdsRefused() {
        Run three = of("s1;s2;s4;m0 0 1;", "fb");
        three.bad("15 BAD: fair 0, 1", (x, fair) -> x.holds(fair, 0), -1, 2);
        three.bad("15 BAD: no such STATE", (x, s) -> x.holds(0, s), -1, 3, 5);
        three.bad("15 BAD: no such STATE, fair", (x, s) -> x.holds(1, s), -1, 3, 5);
        NEW.bad("15 BAD: no STATES", (x, s) -> x.holds(0, s), -1, 0);
        NEW.bad("15 BAD: no STATES", (x, s) -> x.holds(1, s), -1, 0);
        Run five = of("s0;s0;s0;s0;s0;", "1");
        five.bad("15 BAD: behind five STATES", (x, s) -> x.holds(0, s), -1, 5);
        three.refused("15 BAD: both", x -> x.holds(2, 3), Run.BAD);
    }

    private static void whereBits() {
        for (int set = 0; set < 32; set++) {
            StringBuilder system = new StringBuilder();
            for (int s = 0; s < 5; s++) {
                system.append('s').append(set >> s & 1).append(';');
            }
            int bits = set;
            due("16 STATES (bits)", of(system.toString(), "a"), x -> x.where(0), bits);
            due("16 STATES (bits)", of(system.toString(), "ga"), x -> x.where(1), bits);
        }
        for (int states = 0; states <= 5; states++) {
            due("16 all", of("s1;".repeat(states), "1"), x -> x.where(0), (1 << states) - 1);
            due("16 none", of("s1;".repeat(states), "0"), x -> x.where(1), 0);
        }
        due("16 no STATES", NEW, x -> x.where(0), 0);
        due("16 no STATES", NEW, x -> x.where(1), 0);
        due("16 a smaller SYSTEM", of("s1;s1;s1;s1;s1;", "a").system("s1;s1;"), x -> x.where(0), 3);
        NEW.bad("16 BAD: fair 0, 1", (x, fair) -> x.where(fair), -1, 2);
        of("s1;s2;", "a").bad("16 BAD: fair 0, 1", (x, fair) -> x.where(fair), -1, 2);
        due("16 of FAIR ones", of("s1;s2;m0 0 0;m1 0 1;", "fb"), x -> x.where(1), 3);
        due("16 of all", of("s1;s2;m0 0 0;m1 0 1;", "fb"), x -> x.where(0), 2);
    }

    /** All five states in one line, in each order: each is reached by way of all those ahead of it, 0 as well. */
    private static void whereInEachOrder() {
        for (int code = 0; code < 3125; code++) {
            int[] order = {code % 5, code / 5 % 5, code / 25 % 5, code / 125 % 5, code / 625};
            int all = 0;
            for (int s : order) {
                all |= 1 << s;
            }
            if (all == 31) {
                whereInOrder(order);
            }
        }
    }

    private static void whereInOrder(int[] order) {
        StringBuilder system = new StringBuilder();
        for (int s = 0; s < 5; s++) {
            system.append(s == order[4] ? "s1;" : "s0;");
        }
        for (int i = 0; i < 4; i++) {
            system.append('m').append(i % 2).append(' ').append(order[i]).append(' ').append(order[i + 1]).append(';');
        }
        int last = 1 << order[4];
        int lastTwo = last | 1 << order[3];
        for (int fair = 0; fair < 2; fair++) {
            int f = fair;
            due("16 nowhere: " + system, of(system.toString(), "0"), x -> x.where(f), 0);
            due("16 at the end: " + system, of(system.toString(), "a"), x -> x.where(f), last);
            due("16 at the end for ever: " + system, of(system.toString(), "ga"), x -> x.where(f), last);
            due("16 just ahead of the end: " + system, of(system.toString(), "xa"), x -> x.where(f), lastTwo);
            due("16 some time: " + system, of(system.toString(), "fga"), x -> x.where(f), 31);
            due("16 never not: " + system, of(system.toString(), "gfna"), x -> x.where(f), 0);
        }
    }

    private static void someFromState0() {
        Run run = of("s0;s1;m0 1 0;", "a");
        due("17 from STATE 0 alone", run, x -> x.some(0), 0);
        due("17 from STATE 0 alone", run, x -> x.some(1), 0);
        due("17 one such PATH at least", of("s0;s1;s0;m0 0 1;m0 0 2;", "xa"), x -> x.some(0), 1);
        due("17 one such PATH at least", of("s0;s1;s0;m0 0 1;m0 0 2;", "xna"), x -> x.some(0), 1);
        due("17 none", of("s0;s1;s0;m0 0 2;", "fa"), x -> x.some(0), 0);
        NEW.refused("17 STATE: there are no STATES", x -> x.some(0), Run.STATE);
        NEW.refused("17 STATE: there are no STATES", x -> x.some(1), Run.STATE);
        NEW.bad("17 BAD ahead of STATE", (x, fair) -> x.some(fair), -1, 2);
        of("s1;", "a").bad("17 BAD: fair 0, 1", (x, fair) -> x.some(fair), -1, 2);
        due("17 one STATE is enough", of("s1;", "a"), x -> x.some(0), 1);
        of("s1;", "a").system("").refused("17 STATE: no STATES any more", x -> x.some(0), Run.STATE);
        due("17 both at once may be", of("s0;s1;s0;m0 0 1;m0 0 2;", "xa"), x -> x.holds(0, 0), 0);
    }

    // ---- promise 18

    private static void breaksLeastN() {
        breaks("18 n 1: staying", of("s0;", "a"), 0, 1, 0, 0);
        breaks("18 n 1: staying, fair", of("s0;", "a"), 1, 1, 0, 0);
        breaks("18 n 1: a MOVE to itself", of("s0;s1;m1 0 0;m1 0 1;", "0"), 0, 1, 0, 0);
        breaks("18 n 2: there and staying", of("s1;s0;m0 0 1;", "ga"), 0, 2, 1, 1);
        breaks("18 n 2: there and back", of("s1;s0;m0 0 1;m0 1 0;", "ga"), 0, 2, 0, 0);
        breaks("18 n 5: all STATES and staying", of("s1;s1;s1;s1;s0;m0 0 1;m0 1 2;m0 2 3;m0 3 4;", "ga"), 0, 5, 4, 4);
        breaks("18 n 5: all STATES round", of("s1;s1;s1;s1;s0;m0 0 1;m0 1 2;m0 2 3;m0 3 4;m0 4 0;", "ga"), 0, 5, 0, 0);
        breaks("18 from STATE 0 alone", of("s1;s0;m0 1 1;", "ga"), 0, Run.NONE, Run.NONE, Run.NONE);
        breaks("18 the shorter of two ways", of("s1;s1;s0;m0 0 1;m0 1 2;m0 0 2;", "ga"), 0, 2, 1, 2);
    }

    private static void breaksLeastK() {
        String system = "s1;s0;m0 0 1;m0 1 1;m0 1 0;";
        breaks("18 of k 0 and k 1 the least", of(system, "ga"), 0, 2, 0, 0);
        breaks("18 just k 1 is not SO", of(system, "gfa"), 0, 2, 1, 1);
        String three = "s1;s1;s0;m0 0 1;m0 1 2;m0 2 2;m0 2 1;";
        breaks("18 of k 1 and k 2 the least", of(three, "ga"), 0, 3, 1, 1);
        breaks("18 of k 0, k 1 and k 2 the least", of(three + "m1 2 0;", "ga"), 0, 3, 0, 0);
        breaks("18 k n - 1", of(three, "gfa"), 0, 3, 2, 2);
        breaks("18 the least n goes ahead of the least k", of("s1;s0;s0;m0 0 1;m0 1 1;m0 1 2;m0 2 0;", "ga"), 0, 2, 1, 1);
    }

    private static void breaksLeastState() {
        breaks("18 the least STATE, told last", of("s1;s0;s0;s0;m0 0 3;m0 0 2;m1 0 1;", "ga"), 0, 2, 1, 1);
        breaks("18 the least STATE of those", of("s1;s0;s0;s0;m0 0 3;m0 0 2;", "ga"), 0, 2, 1, 2);
        breaks("18 the least of which it is not SO", of("s1;s1;s0;s0;m0 0 1;m0 0 3;m0 0 2;", "ga"), 0, 2, 1, 2);
        breaks("18 the last STATE", of("s1;s1;s1;s1;s0;m0 0 4;m0 0 1;", "ga"), 0, 2, 1, 4);
        // k less goes ahead of the STATE less: by 4 and back to 0, not by 1 and staying
        breaks("18 the least k goes ahead", of("s1;s0;s0;s0;s0;m0 0 1;m0 0 4;m0 4 0;", "ga"), 0, 2, 0, 0);
        breaks("18 k 1 of n 3: the least s k", of("s1;s1;s1;s0;s0;m0 0 2;m0 2 3;m0 3 2;m0 0 1;m0 1 4;m0 4 1;", "ga"), 0, 3, 1, 1);
    }

    private static void breaksNone() {
        for (int fair = 0; fair < 2; fair++) {
            breaks("18 NONE: it is SO of all", of("s1;s3;m0 0 1;m1 1 0;", "ga"), fair, Run.NONE, Run.NONE, Run.NONE);
            breaks("18 NONE: 1", of("s1;s3;m0 0 1;m1 1 0;", "1"), fair, Run.NONE, Run.NONE, Run.NONE);
        }
        Run unfair = of("s1;s2;m0 0 0;m1 0 1;", "fb");
        breaks("18 one that is not FAIR", unfair, 0, 1, 0, 0);
        breaks("18 NONE: FAIR ones alone", unfair, 1, Run.NONE, Run.NONE, Run.NONE);
    }

    private static void breaksFairAlikeEachRound() {
        breaks("18 one MOVE of each STATE: n 1 is not FAIR", of("s1;m0 0 0;m1 0 0;", "0"), 1, 2, 0, 0);
        breaks("18 but it is a LASSO", of("s1;m0 0 0;m1 0 0;", "0"), 0, 1, 0, 0);
        breaks("18 one ACTOR alone: n 1 is FAIR", of("s1;m0 0 0;m0 0 0;", "0"), 1, 1, 0, 0);
        breaks("18 MOVES can be chosen, one ACTOR's each", of("s1;s1;m0 0 1;m1 0 1;m0 1 0;m1 1 0;", "0"), 1, 2, 0, 0);
        breaks("18 a STATE without a MOVE of his", of("s1;s1;m0 0 1;m1 0 1;m0 1 0;", "0"), 1, 2, 0, 0);
        breaks("18 ahead of the round nothing is owed", of("s1;s1;m0 0 1;m1 0 1;", "0"), 1, 2, 1, 1);
        breaks("18 a shorter way to a FAIR round", of("s1;s1;m0 0 0;m1 0 0;m0 0 1;", "0"), 1, 2, 0, 0);
        breaks("18 a round of his in the other STATE", of("s1;s1;m0 0 1;m0 1 1;m1 1 1;", "0"), 1, 3, 1, 1);
        // actor 0 has his one move at 0, actor 1 at 1 must come back
        breaks("18 both in three steps", of("s1;s1;m0 0 0;m1 0 1;m0 1 1;m1 1 0;", "0"), 1, 3, 0, 0);
    }

    private static void breaksLongerThanStates() {
        String two = "s0;s1;m0 0 0;m0 0 1;m0 1 0;";
        breaks("18 the third place is told", of(two, "nkxxaxna"), 0, 3, 0, 0);
        breaks("18 the fourth place is told", of(two, "nkxxxana"), 0, 2, 0, 0);
        String flower = "s0;s1;s2;s4;m0 0 1;m0 1 0;m0 0 2;m0 2 0;m0 0 3;m0 3 0;";
        breaks("18 two petals in one round", of(flower, "ngkfafb"), 0, 4, 0, 0);
        breaks("18 a round and a way", of(flower, "nkfagfb"), 0, 4, 0, 0);
    }

    /** Three parts that wait for something and both actors' moves, all in one round. */
    private static void breaksMostDue() {
        String petals = "s0;s1;s2;m0 0 1;m0 1 0;m0 0 2;m0 2 0;";
        breaks("18 one ACTOR, both petals", of(petals, "ngkfafb"), 1, 4, 0, 0);
        breaks("18 both ACTORS, both petals", of(petals + "m1 0 0;m1 1 1;m1 2 2;", "ngkfafb"), 1, 5, 0, 0);
        breaks("18 both petals told the other way", of(petals + "m1 0 0;m1 1 1;m1 2 2;", "ngkfbfa"), 1, 5, 0, 0);
        breaks("18 both ACTORS, one petal", of(petals + "m1 0 0;m1 1 1;m1 2 2;", "ngfa"), 1, 3, 0, 0);
        breaks("18 both ACTORS, the other petal", of(petals + "m1 0 0;m1 1 1;m1 2 2;", "ngfb"), 1, 3, 0, 0);
        breaks("18 not FAIR, both petals", of(petals + "m1 0 0;m1 1 1;m1 2 2;", "ngkfafb"), 0, 4, 0, 0);
    }

    private static void breaksManyWays() {
        breaks("18 the first of two ways", of("s1;s1;s1;s0;s1;m0 0 1;m0 0 2;m0 1 3;m0 2 4;", "ga"), 0, 3, 2, 3);
        breaks("18 the second of two ways", of("s1;s1;s1;s1;s0;m0 0 1;m0 0 2;m0 1 3;m0 2 4;", "ga"), 0, 3, 2, 4);
        breaks("18 both of two ways", of("s1;s1;s1;s0;s0;m0 0 1;m0 0 2;m0 1 4;m0 2 3;", "ga"), 0, 3, 2, 3);
    }

    private static void breaksRefused() {
        Run run = of("s1;s0;m0 0 1;", "ga");
        run.bad("18 BAD: fair 0, 1", (x, fair) -> x.breaks(fair, 0), -1, 2);
        run.bad("18 BAD: what 0 to 2", (x, what) -> x.breaks(0, what), -1, 3);
        run.bad("18 BAD: what 0 to 2, fair", (x, what) -> x.breaks(1, what), -1, 3);
        Run none = of("s1;", "1");
        none.bad("18 BAD ahead of NONE", (x, what) -> x.breaks(0, what), -1, 3);
        for (int what = 0; what < 3; what++) {
            int asked = what;
            NEW.refused("18 STATE: there are no STATES", x -> x.breaks(0, asked), Run.STATE);
            NEW.refused("18 STATE: there are no STATES, fair", x -> x.breaks(1, asked), Run.STATE);
            NEW.bad("18 BAD ahead of STATE: fair", (x, fair) -> x.breaks(fair, asked), -1, 2);
        }
        NEW.bad("18 BAD ahead of STATE: what", (x, what) -> x.breaks(0, what), -1, 3);
        NEW.formula("0").refused("18 STATE: no STATES, whatever the FORMULA", x -> x.breaks(0, 0), Run.STATE);
    }

    private static void nothingIsChanged() {
        Run run = of("s1;s2;m0 0 0;m1 0 1;", "fb").then(x -> x.stores(0), x -> x.keep(0)).shown(1, 2).typed("na");
        run.asked("3 nothing is changed: holds", x -> x.holds(0, 0), 0);
        run.asked("3 nothing is changed: holds, fair", x -> x.holds(1, 0), 1);
        run.asked("3 nothing is changed: where", x -> x.where(0), 2);
        run.asked("3 nothing is changed: some", x -> x.some(1), 1);
        for (int fair = 0; fair < 2; fair++) {
            for (int what = 0; what < 3; what++) {
                int f = fair;
                int w = what;
                run.asked("3 nothing is changed: breaks", x -> x.breaks(f, w), fair == 1 ? Run.NONE : what == 0 ? 1 : 0);
            }
        }
    }
}
