import java.util.ArrayDeque;
import java.util.ArrayList;
import java.util.List;
import java.util.Random;

/** Promises 6 to 14 and 20 to 25: long random runs of calls, held against a plain model of what is changed. */
public final class WorldModelTest {
    /** System, formula and slots; never changed once made. */
    private record World(List<Integer> labels, List<List<Integer>> moves, String formula, List<String> slots) {
        World with(List<Integer> other) {
            return new World(other, moves, formula, slots);
        }

        World withMoves(List<List<Integer>> other) {
            return new World(labels, other, formula, slots);
        }

        World withFormula(String other) {
            return new World(labels, moves, other, slots);
        }
    }

    private final Random random;
    private final LassoPaths x = new LassoPaths();
    private World now = new World(List.of(), List.of(), "1", List.of("1", "1", "1"));
    private final ArrayDeque<World> past = new ArrayDeque<>();
    private final World[] images = new World[2];
    private int shown = 0;

    private WorldModelTest(Random random) {
        this.random = random;
    }

    public static void main(String[] args) {
        for (int seed = 0; seed < 400; seed++) {
            WorldModelTest test = new WorldModelTest(new Random(seed));
            for (int call = 0; call < 200; call++) {
                test.one();
                test.look();
            }
        }
        Check.end();
    }

    private int number(int most) {
        return random.nextInt(12) == 0 ? -1 : random.nextInt(most + 1);
    }

    private void done(World next) {
        past.addLast(now);
        if (past.size() > 6) {
            past.removeFirst();
        }
        now = next;
    }

    private void one() {
        switch (random.nextInt(15)) {
            case 0:
                if (random.nextInt(3) == 0) {
                    tellSystem();
                }
                break;
            case 1:
                tellFormula();
                break;
            case 2:
            case 3:
                changeLabel();
                break;
            case 4:
            case 5:
            case 6:
                addMove();
                break;
            case 7:
                takeMove();
                break;
            case 8:
                store();
                break;
            case 9:
                fetch();
                break;
            case 10:
            case 11:
                undo();
                break;
            case 12:
                show();
                break;
            case 13:
                keep();
                break;
            default:
                back();
        }
    }

    private void tellSystem() {
        List<Integer> labels = new ArrayList<>();
        StringBuilder text = new StringBuilder();
        for (int i = random.nextInt(6); i > 0; i--) {
            labels.add(random.nextInt(8));
            text.append('s').append(labels.get(labels.size() - 1)).append(';');
        }
        Check.due("system " + text, Check.system(x, text.toString()), labels.size());
        done(new World(labels, List.of(), now.formula, now.slots));
    }

    private void tellFormula() {
        String formula = Check.randomFormula(random, 1 + random.nextInt(16), random.nextInt(4), "abc01");
        Check.due("formula " + formula, Check.formula(x, formula), formula.length());
        done(now.withFormula(formula));
    }

    private void changeLabel() {
        int s = number(5);
        int label = number(8);
        int got = x.labels(s, label);
        if (s < 0 || s >= now.labels.size() || label < 0 || label > 7) {
            Check.due("labels", got, LassoPaths.BAD);
        } else if (now.labels.get(s) == label) {
            Check.due("labels", got, LassoPaths.STATE);
        } else {
            Check.due("labels", got, now.labels.get(s));
            List<Integer> labels = new ArrayList<>(now.labels);
            labels.set(s, label);
            done(now.with(labels));
        }
    }

    private void addMove() {
        int actor = number(2) % 2;
        int from = number(now.labels.size());
        int to = number(Math.max(0, now.labels.size() - 1));
        int got = x.moves(actor, from, to);
        int states = now.labels.size();
        if (actor < 0 || from < 0 || from >= states || to < 0 || to >= states) {
            Check.due("moves", got, LassoPaths.BAD);
        } else if (now.moves.size() == 10) {
            Check.due("moves", got, LassoPaths.FULL);
        } else {
            Check.due("moves", got, now.moves.size());
            List<List<Integer>> moves = new ArrayList<>(now.moves);
            moves.add(List.of(actor, from, to));
            done(now.withMoves(moves));
        }
    }

    private void takeMove() {
        int m = number(10);
        int got = x.takes(m);
        if (m < 0 || m >= now.moves.size()) {
            Check.due("takes", got, LassoPaths.BAD);
            return;
        }
        List<List<Integer>> moves = new ArrayList<>(now.moves);
        moves.remove(m);
        Check.due("takes", got, moves.size());
        done(now.withMoves(moves));
    }

    private void store() {
        int slot = number(3);
        int got = x.stores(slot);
        if (slot < 0 || slot > 2) {
            Check.due("stores", got, LassoPaths.BAD);
            return;
        }
        Check.due("stores", got, now.formula.length());
        List<String> slots = new ArrayList<>(now.slots);
        slots.set(slot, now.formula);
        done(new World(now.labels, now.moves, now.formula, slots));
    }

    private void fetch() {
        int slot = number(3);
        int got = x.fetches(slot);
        if (slot < 0 || slot > 2) {
            Check.due("fetches", got, LassoPaths.BAD);
            return;
        }
        Check.due("fetches", got, now.slots.get(slot).length());
        done(now.withFormula(now.slots.get(slot)));
    }

    private void undo() {
        int got = x.undo();
        if (past.isEmpty()) {
            Check.due("undo", got, LassoPaths.STATE);
            return;
        }
        now = past.removeLast();
        Check.due("undo", got, past.size());
    }

    private void show() {
        if (random.nextInt(10) == 0) {
            Check.due("hides", x.hides(), shown);
            shown = 0;
            return;
        }
        int label = number(8);
        int got = x.shows(label);
        if (label < 0 || label > 7) {
            Check.due("shows", got, LassoPaths.BAD);
        } else if (shown == 8) {
            Check.due("shows", got, LassoPaths.FULL);
        } else {
            shown++;
            Check.due("shows", got, shown);
        }
    }

    private void keep() {
        int image = number(2);
        int got = x.keep(image);
        if (image < 0 || image > 1) {
            Check.due("keep", got, LassoPaths.BAD);
            return;
        }
        Check.due("keep", got, now.labels.size());
        images[image] = now;
    }

    private void back() {
        int image = number(2);
        int got = x.back(image);
        if (image < 0 || image > 1) {
            Check.due("back", got, LassoPaths.BAD);
        } else if (images[image] == null) {
            Check.due("back", got, LassoPaths.STATE);
        } else {
            now = images[image];
            past.clear();
            Check.due("back", got, now.labels.size());
        }
    }

    private void look() {
        Check.due("states", x.count(0), now.labels.size());
        Check.due("moves", x.count(1), now.moves.size());
        Check.due("parts", x.count(2), now.formula.length());
        Check.due("later ones", x.count(3), now.formula.chars().filter(c -> "xfgu".indexOf(c) >= 0).count());
        Check.due("shown", x.count(4), shown);
        Check.due("letters", x.count(5), 0);
        Check.due("undone", x.count(6), past.size());
        for (int s = -1; s < 6; s++) {
            boolean is = s >= 0 && s < now.labels.size();
            Check.due("label", x.label(s), is ? now.labels.get(s) : LassoPaths.BAD);
        }
        for (int m = -1; m < 11; m++) {
            boolean is = m >= 0 && m < now.moves.size();
            for (int what = 0; what < 3; what++) {
                Check.due("move", x.move(m, what), is ? now.moves.get(m).get(what) : LassoPaths.BAD);
            }
        }
        for (int p = -1; p < 17; p++) {
            boolean is = p >= 0 && p < now.formula.length();
            Check.due("part", x.part(p, 0), is ? now.formula.charAt(p) : LassoPaths.BAD);
        }
        lookAtSlots();
    }

    /** A slot can be seen by taking it and undoing that, if that does not drop an older world. */
    private void lookAtSlots() {
        for (int slot = 0; slot < 3 && past.size() < 6; slot++) {
            String formula = now.slots.get(slot);
            Check.due("slot", x.fetches(slot), formula.length());
            for (int p = 0; p < formula.length(); p++) {
                Check.due("slot part", x.part(p, 0), formula.charAt(p));
            }
            Check.due("undo of the look", x.undo(), past.size());
        }
    }
}
