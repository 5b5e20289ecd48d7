import java.util.Random;

/** Promises 19 to 22: random formulas, held against rows judged place by place. */
public final class RowsOracleTest {
    private static final int LONGEST = 5;

    public static void main(String[] args) {
        Random random = new Random(8);
        for (int round = 0; round < 3000; round++) {
            judged(random);
        }
        for (int round = 0; round < 400; round++) {
            against(random);
        }
        Check.end();
    }

    private static void judged(Random random) {
        String formula = Check.randomFormula(random, 1 + random.nextInt(16), random.nextInt(4), "abc01");
        LassoPaths x = Check.used(random, "s7;s1;m0 0 1;", formula);
        int n = 1 + random.nextInt(8);
        int[] row = new int[n];
        StringBuilder told = new StringBuilder();
        for (int i = 0; i < n; i++) {
            row[i] = random.nextInt(8);
            told.append(row[i]);
            Check.due("shows", x.shows(row[i]), i + 1);
        }
        for (int k = 0; k < n; k++) {
            boolean so = Oracle.so(formula, 0, row, n, k, 0);
            Check.due(formula + " judged over " + told + " at " + k, x.judged(k), so ? 1 : 0);
        }
        Check.due("judged at the end", x.judged(n), LassoPaths.BAD);
    }

    private static void against(Random random) {
        int laters = random.nextInt(4);
        String mine = Check.randomFormula(random, 1 + random.nextInt(8), laters, "ab01ab");
        String its = Check.randomFormula(random, 1 + random.nextInt(8), 3 - laters, "ab01ab");
        int slot = random.nextInt(3);
        LassoPaths x = Check.used(random, "s7;s1;m0 0 1;", its);
        x.where(1);
        x.stores(slot);
        Check.formula(x, mine);
        boolean onlyMine = false;
        boolean onlyIts = false;
        boolean both = false;
        for (int n = 1; n <= LONGEST; n++) {
            int[] row = new int[n];
            for (int code = 0; code < 1 << 2 * n; code++) {
                for (int i = 0; i < n; i++) {
                    row[i] = code >> 2 * i & 3;
                }
                for (int k = 0; k < n; k++) {
                    boolean m = Oracle.so(mine, 0, row, n, k, 0);
                    boolean t = Oracle.so(its, 0, row, n, k, 0);
                    onlyMine |= m && !t;
                    onlyIts |= t && !m;
                    both |= m && t;
                }
            }
        }
        String of = mine + " against " + its + " ";
        Check.due(of + 0, x.against(slot, 0), onlyMine || onlyIts ? 0 : 1);
        Check.due(of + 1, x.against(slot, 1), onlyMine ? 0 : 1);
        Check.due(of + 2, x.against(slot, 2), onlyIts ? 0 : 1);
        Check.due(of + 3, x.against(slot, 3), both ? 1 : 0);
    }
}
