/**
 * Every matrix whose numbers are all -50 or 50, beside a model in long. A determinant, and a sum of
 * such, grows evenly with each single number of the matrix, so no matrix has a greater or a smaller one
 * than one of these: the figures that are looked for here are the greatest and the smallest of all.
 */
public final class CornerTest {
    private static int wrong = 0;

    private final long[] a = new long[16];
    private final DeterminantDesk desk = new DeterminantDesk();

    /** The greatest and the smallest answer that a question had so far, and those that are due. */
    private static final class Range {
        private final String name;
        private final long dueLeast;
        private final long dueMost;
        private long least = Long.MAX_VALUE;
        private long most = Long.MIN_VALUE;

        private Range(String name, long dueLeast, long dueMost) {
            this.name = name;
            this.dueLeast = dueLeast;
            this.dueMost = dueMost;
        }

        private void see(long got, long want) {
            least = Math.min(least, got);
            most = Math.max(most, got);
            if (got != want && ++wrong <= 20) {
                System.out.println(name + " answered " + got + ", due is " + want);
            }
        }

        private void close() {
            if (least != dueLeast || most != dueMost) {
                wrong++;
                System.out.println(name + " answered from " + least + " to " + most
                        + ", due is from " + dueLeast + " to " + dueMost);
            }
        }
    }

    private static final Range DETERMINANT = new Range("determinant()", -100000000, 100000000);
    private static final Range WITH = new Range("determinantWith(i, j, v)", -100000000, 100000000);
    private static final Range SHIFTED = new Range("shifted(v)", -168750000, 306250000);
    private static final Range RANK = new Range("rank()", 1, 4);
    private static final Range[] MINORS = new Range[16];
    private static final Range[] COEFFICIENTS = {
        new Range("coefficient(0)", -100000000, 100000000),
        new Range("coefficient(1)", -2000000, 2000000),
        new Range("coefficient(2)", -20000, 30000),
        new Range("coefficient(3)", -200, 200),
        new Range("coefficient(4)", 1, 1)};
    private static final Range[] PRINCIPALS = {
        null,
        new Range("principal(1)", -200, 200),
        new Range("principal(2)", -20000, 30000),
        new Range("principal(3)", -2000000, 2000000),
        new Range("principal(4)", -100000000, 100000000)};

    private CornerTest(int corner) {
        for (int n = 0; n < 16; n++) {
            a[n] = (corner >> n & 1) == 1 ? 50 : -50;
            desk.set(n / 4, n % 4, (int) a[n]);
        }
    }

    public static void main(String[] args) {
        for (int n = 0; n < 16; n++) {
            MINORS[n] = new Range("minor(" + n / 4 + ", " + n % 4 + ")", -500000, 500000);
        }
        for (int corner = 0; corner < 65536; corner++) {
            new CornerTest(corner).ask();
        }
        closeAll();
        System.out.println(wrong == 0 ? "all corners are as due" : wrong + " answers are not as due");
        if (wrong != 0) {
            System.exit(1);
        }
    }

    private static void closeAll() {
        DETERMINANT.close();
        WITH.close();
        SHIFTED.close();
        RANK.close();
        for (Range range : MINORS) {
            range.close();
        }
        for (Range range : COEFFICIENTS) {
            range.close();
        }
        for (int k = 1; k <= 4; k++) {
            PRINCIPALS[k].close();
        }
    }

    private void ask() {
        long[] sums = principalSums();
        DETERMINANT.see(desk.determinant(), sums[4]);
        RANK.see(desk.rank(), rank(sums[4]));
        for (int n = 0; n < 16; n++) {
            long minor = minor(n / 4, n % 4);
            MINORS[n].see(desk.minor(n / 4, n % 4), minor);
            // The other limit in one place takes its number twice out of the determinant.
            long sign = (n / 4 + n % 4) % 2 == 0 ? 1 : -1;
            WITH.see(desk.determinantWith(n / 4, n % 4, (int) -a[n]), sums[4] - 2 * a[n] * sign * minor);
        }
        for (int k = 0; k <= 4; k++) {
            COEFFICIENTS[k].see(desk.coefficient(k), k % 2 == 0 ? sums[4 - k] : -sums[4 - k]);
        }
        for (int k = 1; k <= 4; k++) {
            PRINCIPALS[k].see(desk.principal(k), sums[k]);
        }
        for (long v = -50; v <= 50; v++) {
            long value = (((v + sums[1]) * v + sums[2]) * v + sums[3]) * v + sums[4];
            SHIFTED.see(desk.shifted((int) v), value);
        }
    }

    private long[] principalSums() {
        long[] sums = {1, 0, 0, 0, 0};
        for (int i = 0; i < 4; i++) {
            sums[1] += a[i * 5];
            sums[3] += minor(i, i);
            sums[4] += (i % 2 == 0 ? a[i] : -a[i]) * minor(0, i);
            for (int k = 0; k < i; k++) {
                sums[2] += a[i * 5] * a[k * 5] - a[i * 4 + k] * a[k * 4 + i];
            }
        }
        return sums;
    }

    /** Sarrus' rule over what is left without row i and column j. */
    private long minor(int i, int j) {
        long[] m = new long[9];
        for (int n = 0; n < 9; n++) {
            int row = n / 3 < i ? n / 3 : n / 3 + 1;
            int column = n % 3 < j ? n % 3 : n % 3 + 1;
            m[n] = a[row * 4 + column];
        }
        return m[0] * m[4] * m[8] + m[1] * m[5] * m[6] + m[2] * m[3] * m[7]
                - m[2] * m[4] * m[6] - m[0] * m[5] * m[7] - m[1] * m[3] * m[8];
    }

    private int rank(long determinant) {
        if (determinant != 0) {
            return 4;
        }
        for (int n = 0; n < 16; n++) {
            if (minor(n / 4, n % 4) != 0) {
                return 3;
            }
        }
        for (int i = 0; i < 4; i++) {
            for (int j = 0; j < 4; j++) {
                // With no 0 anywhere, two rows or columns that are not in step show beside the first place.
                if (a[0] * a[i * 4 + j] != a[j] * a[i * 4]) {
                    return 2;
                }
            }
        }
        return 1;
    }
}
