import java.math.BigInteger;

/**
 * Long runs of calls beside a model that works in other ways: determinants by expansion along a row
 * in BigInteger, ranks by the greatest minor that is not 0, coefficients by values of the polynomial.
 */
public final class ModelTest {
    private static final int BAD = -1000000000;
    private static final int RUNS = 300;
    private static final int CALLS = 512;

    private final DeterminantDesk desk = new DeterminantDesk();
    private final int[][] model = new int[4][5];
    private final int run;
    private long seed;
    private int calls = 0;

    private static int wrong = 0;

    private ModelTest(int run) {
        this.run = run;
        this.seed = 1000003L * run + 17;
    }

    public static void main(String[] args) {
        for (int run = 0; run < RUNS; run++) {
            new ModelTest(run).play();
        }
        System.out.println(wrong == 0 ? "all runs are as the model's" : wrong + " answers are not the model's");
        if (wrong != 0) {
            System.exit(1);
        }
    }

    private void play() {
        // A step makes at most five calls, and twenty are kept for the end.
        while (calls < CALLS - 25) {
            calls++;
            step();
        }
        for (int n = 0; n < 20; n++) {
            due("at(" + n / 5 + ", " + n % 5 + ") at the end", desk.at(n / 5, n % 5), model[n / 5][n % 5]);
        }
    }

    private void due(String call, long got, long want) {
        if (got != want && ++wrong <= 20) {
            System.out.println("run " + run + ": " + call + " answered " + got + ", due is " + want
                    + " with " + java.util.Arrays.deepToString(model));
        }
    }

    private void due(String call, boolean got, boolean want) {
        due(call, got ? 1 : 0, want ? 1 : 0);
    }

    /** The same numbers in every run of the test. */
    private int pick(int least, int most) {
        seed = seed * 6364136223846793005L + 1442695040888963407L;
        return least + (int) ((seed >>> 33) % (most - least + 1));
    }

    private int pickLine() {
        return pick(0, 15) == 0 ? pick(-2, 6) : pick(0, 3);
    }

    /** Small numbers in some runs, so that ranks below 4 come often; the limits in others. */
    private int pickNumber() {
        if (pick(0, 19) == 0) {
            return pick(-53, 53);
        }
        switch (run % 4) {
            case 0: return pick(-1, 1);
            case 1: return pick(0, 3) == 0 ? pick(-3, 3) : 0;
            case 2: return pick(0, 1) == 0 ? pick(45, 50) : pick(-50, -45);
            default: return pick(-50, 50);
        }
    }

    private void step() {
        switch (pick(0, 19)) {
            case 0, 1, 2, 3 -> set(pickLine(), pick(-1, 40) == -1 ? pick(-2, 7) : pick(0, 4), pickNumber());
            case 4 -> at(pickLine(), pick(-1, 5));
            case 5 -> swapRows(pickLine(), pickLine());
            case 6, 7 -> addRow(pickLine(), pickLine(), pick(0, 2) == 0 ? pick(-11, 11) : pick(-1, 1));
            case 8 -> transpose();
            case 9 -> due("determinant()", desk.determinant(), det(matrix()));
            case 10 -> minor(pickLine(), pickLine());
            case 11 -> replaced(pickLine());
            case 12 -> due("rank()", desk.rank(), rankOf(15, 4));
            case 13 -> due("wideRank()", desk.wideRank(), rankOf(15, 5));
            case 14 -> coefficient(pick(-1, 5));
            case 15 -> principal(pick(-1, 5));
            case 16, 17 -> rankOfRows(pick(-1, 16));
            case 18 -> determinantWith(pickLine(), pickLine(), pickNumber());
            default -> shifted(pickNumber());
        }
    }

    private static boolean within(int n, int least, int most) {
        return n >= least && n <= most;
    }

    private void set(int i, int j, int v) {
        boolean fine = within(i, 0, 3) && within(j, 0, 4) && within(v, -50, 50);
        due("set(" + i + ", " + j + ", " + v + ")", desk.set(i, j, v), fine);
        if (fine) {
            model[i][j] = v;
        }
    }

    private void at(int i, int j) {
        int want = within(i, 0, 3) && within(j, 0, 4) ? model[i][j] : BAD;
        due("at(" + i + ", " + j + ")", desk.at(i, j), want);
    }

    private void swapRows(int i, int k) {
        boolean fine = within(i, 0, 3) && within(k, 0, 3);
        due("swapRows(" + i + ", " + k + ")", desk.swapRows(i, k), fine);
        if (fine) {
            int[] kept = model[i].clone();
            System.arraycopy(model[k], 0, model[i], 0, 4);
            System.arraycopy(kept, 0, model[k], 0, 4);
        }
    }

    private void addRow(int i, int k, int f) {
        boolean fine = within(i, 0, 3) && within(k, 0, 3) && i != k && within(f, -9, 9);
        int[] sums = new int[4];
        for (int j = 0; j < 4 && fine; j++) {
            sums[j] = model[i][j] + f * model[k][j];
            fine = within(sums[j], -50, 50);
        }
        due("addRow(" + i + ", " + k + ", " + f + ")", desk.addRow(i, k, f), fine);
        if (fine) {
            System.arraycopy(sums, 0, model[i], 0, 4);
        }
    }

    private void transpose() {
        desk.transpose();
        int[][] old = matrix();
        for (int i = 0; i < 4; i++) {
            for (int j = 0; j < 4; j++) {
                model[i][j] = old[j][i];
            }
        }
    }

    private void minor(int i, int j) {
        long want = within(i, 0, 3) && within(j, 0, 3) ? det(part(15 & ~(1 << i), 15 & ~(1 << j))) : BAD;
        due("minor(" + i + ", " + j + ")", desk.minor(i, j), want);
    }

    private void replaced(int j) {
        long want = BAD;
        if (within(j, 0, 3)) {
            int[][] other = matrix();
            for (int i = 0; i < 4; i++) {
                other[i][j] = model[i][4];
            }
            want = det(other);
        }
        due("replaced(" + j + ")", desk.replaced(j), want);
    }

    /** The polynomial's values at more than four places settle all its coefficients. */
    private void coefficient(int k) {
        if (!within(k, 0, 4)) {
            due("coefficient(" + k + ")", desk.coefficient(k), BAD);
            return;
        }
        int[] coefficients = new int[5];
        for (int power = 0; power <= 4; power++) {
            coefficients[power] = desk.coefficient(power);
        }
        calls += 4;
        for (int x = -2; x <= 3; x++) {
            int[][] other = matrix();
            for (int i = 0; i < 4; i++) {
                for (int j = 0; j < 4; j++) {
                    other[i][j] = (i == j ? x : 0) - other[i][j];
                }
            }
            long value = 0;
            for (int power = 4; power >= 0; power--) {
                value = value * x + coefficients[power];
            }
            due("the polynomial of the coefficients at " + x, value, det(other));
        }
    }

    private void principal(int k) {
        long want = within(k, 1, 4) ? 0 : BAD;
        for (int kept = 1; kept <= 15 && want != BAD; kept++) {
            if (Integer.bitCount(kept) == k) {
                want += det(part(kept, kept));
            }
        }
        due("principal(" + k + ")", desk.principal(k), want);
    }

    private void rankOfRows(int rows) {
        due("rankOf(" + rows + ")", desk.rankOf(rows), within(rows, 0, 15) ? rankOf(rows, 4) : BAD);
    }

    private void determinantWith(int i, int j, int v) {
        long want = BAD;
        if (within(i, 0, 3) && within(j, 0, 3) && within(v, -50, 50)) {
            int[][] other = matrix();
            other[i][j] = v;
            want = det(other);
        }
        due("determinantWith(" + i + ", " + j + ", " + v + ")", desk.determinantWith(i, j, v), want);
    }

    private void shifted(int v) {
        long want = BAD;
        if (within(v, -50, 50)) {
            int[][] other = matrix();
            for (int i = 0; i < 4; i++) {
                other[i][i] += v;
            }
            want = det(other);
        }
        due("shifted(" + v + ")", desk.shifted(v), want);
    }

    private int[][] matrix() {
        return part(15, 15);
    }

    /** The rows and columns whose bits are set; bit 4 of the columns is the COLUMN. */
    private int[][] part(int rows, int columns) {
        int[][] kept = new int[Integer.bitCount(rows)][Integer.bitCount(columns)];
        int to = 0;
        for (int i = 0; i < 4; i++) {
            if ((rows >> i & 1) == 1) {
                int place = 0;
                for (int j = 0; j < 5; j++) {
                    if ((columns >> j & 1) == 1) {
                        kept[to][place++] = model[i][j];
                    }
                }
                to++;
            }
        }
        return kept;
    }

    private int rankOf(int rows, int width) {
        int best = 0;
        for (int some = 0; some <= 15; some++) {
            int size = Integer.bitCount(some);
            for (int columns = 0; columns < 1 << width && (some & ~rows) == 0 && size > best; columns++) {
                if (Integer.bitCount(columns) == size && det(part(some, columns)) != 0) {
                    best = size;
                }
            }
        }
        return best;
    }

    private static long det(int[][] numbers) {
        return expand(numbers, 0, 0).longValueExact();
    }

    private static BigInteger expand(int[][] numbers, int row, int used) {
        if (row == numbers.length) {
            return BigInteger.ONE;
        }
        BigInteger sum = BigInteger.ZERO;
        int sign = 1;
        for (int j = 0; j < numbers.length; j++) {
            if ((used >> j & 1) == 0) {
                BigInteger rest = expand(numbers, row + 1, used | 1 << j);
                sum = sum.add(rest.multiply(BigInteger.valueOf((long) sign * numbers[row][j])));
                sign = -sign;
            }
        }
        return sum;
    }
}
