import java.util.ArrayList;
import java.util.List;

/** A run of calls that can be made again on a new object, so that what only later calls would show is seen as well. */
final class Run {
    static final int BAD = LassoPaths.BAD;
    static final int STATE = LassoPaths.STATE;
    static final int FULL = LassoPaths.FULL;
    static final int NONE = LassoPaths.NONE;

    private static final int MOST_CALLS = 512;
    /** Letters that may come to THE TEXT, so that what stands in it shows in how it is read. */
    private static final String[] ENDINGS = {"", " ", "a", "1", "1;", ";", "0;"};
    /** Formulas that tell rows of shown labels from one another. */
    private static final String[] ROWS = {"a", "b", "c", "xa", "xb", "xc", "xxa", "xxb", "xxc", "xxxa", "xxxb", "xxxc",
        "fga", "fgb", "fgc", "gfa", "gfb", "gfc", "fkaxb", "fkbxc", "fkaxna", "fkbxnb", "fkcxnc", "fkaxxna", "fkcxxa"};

    /** One call. */
    interface Call {
        int on(LassoPaths x);
    }

    /** One call with a number in it. */
    interface CallWith {
        int on(LassoPaths x, int number);
    }

    private final List<Call> calls;

    private Run(List<Call> calls) {
        Check.that("a run keeps to " + MOST_CALLS + " calls", calls.size() <= MOST_CALLS);
        this.calls = calls;
    }

    static Run empty() {
        return new Run(List.of());
    }

    Run then(Call... more) {
        List<Call> all = new ArrayList<>(calls);
        all.addAll(List.of(more));
        return new Run(all);
    }

    Run typed(String text) {
        List<Call> all = new ArrayList<>(calls);
        for (char letter : text.toCharArray()) {
            all.add(x -> x.type(letter));
        }
        return new Run(all);
    }

    /** A text that is told well; a run that leans on one that is not would test nothing. */
    Run system(String text) {
        Check.that("system \"" + text + "\" is read", typed(text).answers(LassoPaths::system) >= 0);
        return typed(text).then(LassoPaths::system);
    }

    Run formula(String text) {
        Check.that("formula \"" + text + "\" is read", typed(text).answers(LassoPaths::formula) >= 0);
        return typed(text).then(LassoPaths::formula);
    }

    Run shown(int... row) {
        Run run = this;
        for (int label : row) {
            run = run.then(x -> x.shows(label));
        }
        return run;
    }

    /** A new object of which all these calls were made. */
    LassoPaths object() {
        LassoPaths x = new LassoPaths();
        for (Call call : calls) {
            call.on(x);
        }
        return x;
    }

    /** What the next call would answer. */
    int answers(Call call) {
        return call.on(object());
    }

    /** The call is refused with this answer, and nothing is changed by it: now, or as later calls would show. */
    void refused(String sentence, Call call, int answer) {
        Check.due(sentence, answers(call), answer);
        Check.that(sentence + ": nothing changes", then(call).seen().equals(seen()));
    }

    /** Each of these numbers is refused as BAD, and nothing is changed. */
    void bad(String sentence, CallWith call, int... numbers) {
        for (int number : numbers) {
            refused(sentence + " (" + number + ")", x -> call.on(x, number), BAD);
        }
        for (int number : new int[] {Integer.MIN_VALUE, Integer.MAX_VALUE}) {
            refused(sentence + " (" + number + ")", x -> call.on(x, number), BAD);
        }
    }

    /** The call is answered so, and nothing is changed by it. */
    void asked(String sentence, Call call, int answer) {
        refused(sentence, call, answer);
    }

    /** What a broad set of next calls shows of such an object. */
    String seen() {
        StringBuilder all = new StringBuilder();
        all.append(view(object())).append("\ntext:");
        for (String ending : ENDINGS) {
            seenText(all, ending);
        }
        for (int back = 0; back <= 7; back++) {
            seenBehind(all, back);
        }
        for (int image = 0; image < 2; image++) {
            seenImage(all, image);
        }
        for (String row : ROWS) {
            seenRow(all, row);
        }
        return all.toString();
    }

    private void seenText(StringBuilder all, String ending) {
        LassoPaths x = typed(ending).object();
        all.append("\nsystem ").append(x.system()).append(view(x));
        x = typed(ending).object();
        all.append("\nformula ").append(x.formula()).append(view(x));
    }

    private void seenBehind(StringBuilder all, int undone) {
        for (int slot = 0; slot < 3; slot++) {
            LassoPaths x = object();
            for (int i = 0; i < undone; i++) {
                all.append("\nundo ").append(x.undo());
            }
            all.append(slot == 0 ? view(x) : "");
            all.append(" fetches ").append(x.fetches(slot)).append(parts(x));
        }
    }

    private void seenImage(StringBuilder all, int image) {
        for (int slot = 0; slot < 3; slot++) {
            LassoPaths x = object();
            all.append("\nback ").append(x.back(image));
            all.append(slot == 0 ? view(x) : "");
            all.append(" fetches ").append(x.fetches(slot)).append(parts(x));
        }
    }

    private void seenRow(StringBuilder all, String row) {
        LassoPaths x = object();
        x.clear();
        for (char letter : row.toCharArray()) {
            x.type(letter);
        }
        all.append("\nrow ").append(x.formula());
        for (int k = 0; k <= 8; k++) {
            all.append(' ').append(x.judged(k));
        }
        all.append(" shows ").append(x.shows(0)).append(" hides ").append(x.hides());
    }

    private static String parts(LassoPaths x) {
        StringBuilder all = new StringBuilder(" parts");
        for (int p = 0; p <= 16; p++) {
            for (int what = 0; what < 4; what++) {
                all.append(' ').append(x.part(p, what));
            }
        }
        return all.toString();
    }

    private static String view(LassoPaths x) {
        StringBuilder all = new StringBuilder("\ncounts");
        for (int what = 0; what < 7; what++) {
            all.append(' ').append(x.count(what));
        }
        all.append(" labels");
        for (int s = 0; s <= 5; s++) {
            all.append(' ').append(x.label(s));
        }
        all.append(" moves");
        for (int m = 0; m <= 10; m++) {
            all.append(' ').append(x.move(m, 0)).append(x.move(m, 1)).append(x.move(m, 2));
        }
        all.append(parts(x)).append(" paths");
        for (int fair = 0; fair < 2; fair++) {
            all.append(' ').append(x.where(fair)).append(' ').append(x.some(fair));
            for (int what = 0; what < 3; what++) {
                all.append(' ').append(x.breaks(fair, what));
            }
        }
        all.append(" against");
        for (int slot = 0; slot < 3; slot++) {
            for (int what = 0; what < 4; what++) {
                all.append(' ').append(x.against(slot, what));
            }
        }
        all.append(" judged");
        for (int k = 0; k <= 8; k++) {
            all.append(' ').append(x.judged(k));
        }
        return all.toString();
    }
}
