import java.util.Random;

/** Promises 15 to 18: random systems and formulas, held against all lassos tried one after another. */
public final class PathsOracleTest {
    private static final int MOST = 7;

    public static void main(String[] args) {
        Random random = new Random(20261118);
        int far = 0;
        for (int round = 0; round < 1500; round++) {
            Oracle.Net net = randomNet(random);
            String formula = Check.randomFormula(random, 1 + random.nextInt(16), random.nextInt(4), "abc01ab");
            LassoPaths x = Check.used(random, net.text(), formula);
            LassoPaths not = Check.made(net.text(), formula.length() < 16 ? "n" + formula : "1");
            for (int fair = 0; fair <= 1; fair++) {
                String of = net.text() + " " + formula + " fair " + fair + ": ";
                far += breaks(x, net, formula, fair, of);
                some(x, not, net, formula, fair, of);
                where(x, net, formula, fair, of);
            }
        }
        System.out.println(far + " lassos were longer than the ones tried");
        Check.end();
    }

    private static Oracle.Net randomNet(Random random) {
        int[] labels = new int[1 + random.nextInt(5)];
        for (int i = 0; i < labels.length; i++) {
            labels[i] = random.nextInt(8);
        }
        Oracle.Net net = new Oracle.Net(labels);
        int moves = random.nextInt(11);
        for (int i = 0; i < moves; i++) {
            net.moves.add(new int[] {random.nextInt(2), random.nextInt(labels.length), random.nextInt(labels.length)});
        }
        return net;
    }

    private static int breaks(LassoPaths x, Oracle.Net net, String formula, int fair, String of) {
        int[] due = Oracle.first(net, formula, false, fair == 1, MOST);
        int n = x.breaks(fair, 0);
        if (due == null) {
            Check.that(of + "breaks n " + n, n == LassoPaths.NONE || n > MOST);
            return n > MOST ? 1 : 0;
        }
        for (int what = 0; what < 3; what++) {
            Check.due(of + "breaks " + what, x.breaks(fair, what), due[what]);
        }
        return 0;
    }

    private static void some(LassoPaths x, LassoPaths not, Oracle.Net net, String formula, int fair, String of) {
        boolean found = Oracle.first(net, formula, true, fair == 1, MOST) != null;
        if (found) {
            Check.due(of + "some", x.some(fair), 1);
        } else if (formula.length() < 16) {
            int n = not.breaks(fair, 0);
            Check.due(of + "some", x.some(fair), n > MOST ? 1 : 0);
        }
    }

    private static void where(LassoPaths x, Oracle.Net net, String formula, int fair, String of) {
        int states = 0;
        for (int s = 0; s < net.labels.length; s++) {
            Oracle.Net other = net.swapped(s);
            boolean holds = Oracle.first(other, formula, false, fair == 1, MOST) == null;
            if (holds) {
                holds = Check.made(other.text(), formula).breaks(fair, 0) <= MOST;
            }
            states |= holds ? 1 << s : 0;
            Check.due(of + "holds " + s, x.holds(fair, s), holds ? 1 : 0);
        }
        Check.due(of + "where", x.where(fair), states);
    }
}
