import java.util.ArrayList;
import java.util.List;

/** The document's words taken literally and slowly: rows judged place by place, lassos tried one after another. */
final class Oracle {
    /** A system: labels, and moves as {actor, from, to}. */
    static final class Net {
        final int[] labels;
        final List<int[]> moves = new ArrayList<>();

        Net(int... labels) {
            this.labels = labels;
        }

        String text() {
            StringBuilder text = new StringBuilder();
            for (int label : labels) {
                text.append('s').append(label).append(';');
            }
            for (int[] m : moves) {
                text.append('m').append(m[0]).append(' ').append(m[1]).append(' ').append(m[2]).append(';');
            }
            return text.toString();
        }

        boolean has(int actor, int from) {
            for (int[] m : moves) {
                if (m[0] == actor && m[1] == from) {
                    return true;
                }
            }
            return false;
        }

        boolean leads(int actor, int from, int to) {
            for (int[] m : moves) {
                if (m[0] == actor && m[1] == from && m[2] == to) {
                    return true;
                }
            }
            return false;
        }

        boolean follows(int from, int to) {
            if (!has(0, from) && !has(1, from)) {
                return from == to;
            }
            return leads(0, from, to) || leads(1, from, to);
        }

        /** The same system with the state s and the state 0 in one another's stead. */
        Net swapped(int s) {
            Net other = new Net(labels.clone());
            other.labels[0] = labels[s];
            other.labels[s] = labels[0];
            for (int[] m : moves) {
                other.moves.add(new int[] {m[0], swap(m[1], s), swap(m[2], s)});
            }
            return other;
        }

        private static int swap(int t, int s) {
            return t == 0 ? s : t == s ? 0 : t;
        }
    }

    private Oracle() {
    }

    private static int end(String formula, int p) {
        char letter = formula.charAt(p);
        if ("kou".indexOf(letter) >= 0) {
            return end(formula, end(formula, p + 1));
        }
        return "nxfg".indexOf(letter) >= 0 ? end(formula, p + 1) : p + 1;
    }

    /** Whether the part at p is so at place i of the row of which the places from k on come again and again. */
    static boolean so(String formula, int p, int[] row, int n, int k, int i) {
        int next = i + 1 < n ? i + 1 : k;
        switch (formula.charAt(p)) {
            case 'a':
                return (row[i] & 1) != 0;
            case 'b':
                return (row[i] & 2) != 0;
            case 'c':
                return (row[i] & 4) != 0;
            case '0':
                return false;
            case '1':
                return true;
            case 'n':
                return !so(formula, p + 1, row, n, k, i);
            case 'k':
                return so(formula, p + 1, row, n, k, i) && so(formula, end(formula, p + 1), row, n, k, i);
            case 'o':
                return so(formula, p + 1, row, n, k, i) || so(formula, end(formula, p + 1), row, n, k, i);
            case 'x':
                return so(formula, p + 1, row, n, k, next);
            default:
                return soSomeTime(formula, p, row, n, k, i);
        }
    }

    /** f, g and u: 2 n places on, each place that can come has come. */
    private static boolean soSomeTime(String formula, int p, int[] row, int n, int k, int i) {
        char letter = formula.charAt(p);
        int at = i;
        for (int step = 0; step < 2 * n; step++) {
            if (letter == 'u') {
                if (so(formula, end(formula, p + 1), row, n, k, at)) {
                    return true;
                }
                if (!so(formula, p + 1, row, n, k, at)) {
                    return false;
                }
            } else if (so(formula, p + 1, row, n, k, at) == (letter == 'f')) {
                return letter == 'f';
            }
            at = at + 1 < n ? at + 1 : k;
        }
        return letter == 'g';
    }

    /** Whether moves can be chosen for the loop, one for each of its steps, by which it is fair. */
    static boolean fair(Net net, int[] states, int n, int k) {
        int needed = 0;
        for (int actor = 0; actor < 2; actor++) {
            boolean always = true;
            for (int i = k; i < n; i++) {
                always &= net.has(actor, states[i]);
            }
            needed |= always ? 1 << actor : 0;
        }
        return choose(net, states, n, k, k, needed);
    }

    private static boolean choose(Net net, int[] states, int n, int k, int i, int needed) {
        if (i == n) {
            return needed == 0;
        }
        int to = states[i + 1 < n ? i + 1 : k];
        boolean moved = false;
        for (int actor = 0; actor < 2; actor++) {
            if (net.leads(actor, states[i], to)) {
                moved = true;
                if (choose(net, states, n, k, i + 1, needed & ~(1 << actor))) {
                    return true;
                }
            }
        }
        return !moved && choose(net, states, n, k, i + 1, needed);
    }

    /** The first lasso from state 0 of up to most states of which the formula is (or is not) so: {n, k, state}. */
    static int[] first(Net net, String formula, boolean wanted, boolean fairOnes, int most) {
        int[] states = new int[most];
        for (int n = 1; n <= most; n++) {
            int[] best = {n, n, 9};
            tryAll(net, formula, wanted, fairOnes, states, n, 1, best);
            if (best[1] < n) {
                return best;
            }
        }
        return null;
    }

    private static void tryAll(Net net, String formula, boolean wanted, boolean fairOnes, int[] states, int n,
            int filled, int[] best) {
        if (filled < n) {
            for (int s = 0; s < net.labels.length; s++) {
                if (net.follows(states[filled - 1], s)) {
                    states[filled] = s;
                    tryAll(net, formula, wanted, fairOnes, states, n, filled + 1, best);
                }
            }
            return;
        }
        int[] row = new int[n];
        for (int i = 0; i < n; i++) {
            row[i] = net.labels[states[i]];
        }
        for (int k = 0; k < n && k <= best[1]; k++) {
            boolean better = k < best[1] || states[k] < best[2];
            if (better && net.follows(states[n - 1], states[k]) && so(formula, 0, row, n, k, 0) == wanted
                    && (!fairOnes || fair(net, states, n, k))) {
                best[1] = k;
                best[2] = states[k];
            }
        }
    }
}
