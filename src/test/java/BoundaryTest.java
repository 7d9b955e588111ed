import java.util.Arrays;

/**
 * A test of its own for each sentence of the document that names a boundary case: the last argument
 * that is accepted and the first that is refused on both sides, the smallest and the greatest int,
 * what a refused call leaves, and the smallest and greatest answers.
 */
public final class BoundaryTest {
    private static final int BAD = -1000000000;
    private static final int NO = 0;
    private static final int YES = 1;

    /** One call on a desk; a boolean answer counts 1 or 0. */
    private interface Call {
        int on(DeterminantDesk x);
    }

    private static int wrong = 0;
    private static int sentences = 0;
    private static String sentence = "";

    // Row after row, each with its number of the COLUMN at its end.
    private static final int[] ZEROS = new int[20];

    // No two numbers are equal and no minor is 0, so that nearly any change shows in many answers.
    private static final int[] MIXED = {
        7, -3, 12, 5, 21,
        -8, 10, 2, -11, -17,
        4, 9, -6, 14, 30,
        1, -13, 8, 3, -2};

    private static final int[] LIMITS = {
        50, 50, 50, 50, 50,
        50, -50, 50, -50, -50,
        50, 50, -50, -50, 50,
        50, -50, -50, 50, -50};

    private static final int[][] STARTS = {ZEROS, MIXED, LIMITS};

    private static final int[] NO_LINE = outside(0, 3);
    private static final int[] NO_WIDE_COLUMN = outside(0, 4);
    private static final int[] NO_NUMBER = outside(-50, 50);
    private static final int[] NO_FACTOR = outside(-9, 9);

    public static void main(String[] args) {
        terms();
        newObject();
        set();
        at();
        swapRows();
        addRow();
        transpose();
        determinant();
        minor();
        replaced();
        rank();
        wideRank();
        coefficient();
        principal();
        rankOf();
        determinantWith();
        shifted();
        orderAndLimits();
        calls512();
        System.out.println(sentences + " sentences: " + (wrong == 0 ? "all hold" : wrong + " answers are not as due"));
        if (wrong != 0) {
            System.exit(1);
        }
    }

    // ---- what all the tests use

    private static void sentence(String words) {
        sentences++;
        sentence = words;
    }

    private static void due(String what, int got, int want) {
        if (got != want && ++wrong <= 60) {
            System.out.println(sentence + "\n    " + what + " answered " + got + ", due is " + want);
        }
    }

    private static int bit(boolean answer) {
        return answer ? YES : NO;
    }

    /** The first ints outside on both sides, the last of all, and some that come inside when they are narrowed or wrap. */
    private static int[] outside(int least, int most) {
        return new int[] {
            least - 1, most + 1, least - 2, most + 2,
            Integer.MIN_VALUE, Integer.MIN_VALUE + 1, Integer.MAX_VALUE, Integer.MAX_VALUE - 1,
            least + 256, most - 256, least + 65536, most - 65536, least + (1 << 30), most - (1 << 30)};
    }

    private static DeterminantDesk desk(int... numbers) {
        DeterminantDesk x = new DeterminantDesk();
        for (int n = 0; n < 20; n++) {
            due("set(" + n / 5 + ", " + n % 5 + ", " + numbers[n] + ") for a desk",
                    bit(x.set(n / 5, n % 5, numbers[n])), YES);
        }
        return x;
    }

    /** A matrix of 50 for +, -50 for - and 0 for 0, row after row, with a COLUMN of zeros. */
    private static DeterminantDesk signs(String rows) {
        return desk(signNumbers(rows));
    }

    private static int[] signNumbers(String rows) {
        int[] numbers = new int[20];
        for (int i = 0; i < 4; i++) {
            for (int j = 0; j < 4; j++) {
                numbers[i * 5 + j] = signNumber(rows.charAt(i * 5 + j));
            }
        }
        return numbers;
    }

    private static int signNumber(char sign) {
        return sign == '+' ? 50 : sign == '-' ? -50 : 0;
    }

    private static int[] with(int[] numbers, int i, int j, int v) {
        int[] other = numbers.clone();
        other[i * 5 + j] = v;
        return other;
    }

    private static void dueNumbers(String when, DeterminantDesk x, int... numbers) {
        for (int n = 0; n < 20; n++) {
            due(when + ", then at(" + n / 5 + ", " + n % 5 + ")", x.at(n / 5, n % 5), numbers[n]);
        }
    }

    /** The numbers are these, and every question is answered as by a desk on which they have just been set. */
    private static void dueState(String when, DeterminantDesk x, int... numbers) {
        dueNumbers(when, x, numbers);
        int[] got = questions(x);
        int[] want = questions(desk(numbers));
        for (int n = 0; n < want.length; n++) {
            due(when + ", then question " + n, got[n], want[n]);
        }
    }

    private static int[] questions(DeterminantDesk x) {
        int[] answers = new int[60];
        int n = 0;
        answers[n++] = x.determinant();
        answers[n++] = x.rank();
        answers[n++] = x.wideRank();
        for (int i = 0; i < 4; i++) {
            for (int j = 0; j < 4; j++) {
                answers[n++] = x.minor(i, j);
            }
            answers[n++] = x.replaced(i);
            answers[n++] = x.principal(i + 1);
            answers[n++] = x.determinantWith(i, 3 - i, 29);
        }
        for (int k = 0; k <= 4; k++) {
            answers[n++] = x.coefficient(k);
        }
        for (int rows = 0; rows <= 15; rows++) {
            answers[n++] = x.rankOf(rows);
        }
        answers[n++] = x.shifted(-50);
        answers[n++] = x.shifted(19);
        return Arrays.copyOf(answers, n);
    }

    /** The call answers the code and changes nothing, whatever the numbers are. */
    private static void refused(String name, int code, Call call) {
        for (int[] start : STARTS) {
            refusedFrom(start, name, code, call);
        }
    }

    private static void refusedFrom(int[] start, String name, int code, Call call) {
        DeterminantDesk x = desk(start);
        due(name, call.on(x), code);
        dueState(name, x, start);
    }

    /** The call answers as is due and leaves these numbers. */
    private static void accepted(int[] start, String name, int want, Call call, int... numbers) {
        DeterminantDesk x = desk(start);
        due(name, call.on(x), want);
        dueState(name, x, numbers);
    }

    // ---- Terms

    private static void terms() {
        sentence("Terms: whole numbers from -50 to 50 in the rows and columns 0 .. 3");
        for (int n = 0; n < 20; n++) {
            if (n % 5 != 4) {
                numberIsKept(n / 5, n % 5);
            }
        }
        sentence("Terms: all 0 at first (the MATRIX)");
        DeterminantDesk x = new DeterminantDesk();
        for (int n = 0; n < 16; n++) {
            due("at(" + n / 4 + ", " + n % 4 + ")", x.at(n / 4, n % 4), 0);
        }
        sentence("Terms: a COLUMN of four such numbers");
        for (int i = 0; i < 4; i++) {
            numberIsKept(i, 4);
        }
        sentence("Terms: all 0 at first (the COLUMN)");
        for (int i = 0; i < 4; i++) {
            due("at(" + i + ", 4)", new DeterminantDesk().at(i, 4), 0);
        }
        sentence("Terms: DETERMINANTS are those of whole numbers (nothing wraps or is rounded)");
        determinantsAreExact();
        sentence("Terms: RANKS are those of whole numbers (nothing wraps or is rounded)");
        ranksAreExact();
    }

    private static void numberIsKept(int i, int j) {
        int[] inside = {-50, -49, -1, 0, 1, 49, 50};
        for (int v : inside) {
            DeterminantDesk x = desk(MIXED);
            due("set(" + i + ", " + j + ", " + v + ")", bit(x.set(i, j, v)), YES);
            dueNumbers("set(" + i + ", " + j + ", " + v + ")", x, with(MIXED, i, j, v));
        }
    }

    private static void determinantsAreExact() {
        // Two blocks with a determinant of -1 each, among products of more than five million.
        int[] blocks = {
            50, 49, 0, 0, 0,
            49, 48, 0, 0, 0,
            0, 0, 50, 49, 0,
            0, 0, 49, 48, 0};
        due("determinant() of two blocks", desk(blocks).determinant(), 1);
        due("determinantWith(0, 0, 49)", desk(blocks).determinantWith(0, 0, 49), 49);
        // Thirds and sevenths: an elimination that divides would have to round.
        int[] thirds = {
            3, 1, 1, 7, 0,
            1, 3, 7, 1, 0,
            7, 1, 3, 1, 0,
            1, 7, 1, 3, 0};
        due("determinant() of thirds", desk(thirds).determinant(), -1920);
    }

    private static void ranksAreExact() {
        // The products 2 to the power 32 and 2 to the power 40 are 0 where an int wraps.
        int[] powers = {
            32, 0, 0, 0, 32,
            0, 32, 0, 0, 32,
            0, 0, 32, 0, 32,
            0, 0, 0, 32, 32};
        dueRanks("powers of two", powers, 4, 4);
        int[] mixedPowers = {
            32, 16, 16, 0, 0,
            16, 32, 0, 16, 0,
            16, 0, 32, 16, 0,
            0, 16, 16, 32, 0};
        dueRanks("powers of two that make a 0", mixedPowers, 3, 3);
        dueRanks("powers of two that no longer do", with(mixedPowers, 3, 3, 33), 4, 4);
        // The third row is a seventh of the first and a third of the second; the fourth differs in the COLUMN alone.
        int[] thirds = {
            49, 7, 21, 35, 14,
            3, 33, -39, 27, 9,
            8, 12, -10, 14, 5,
            8, 12, -10, 14, 6};
        dueRanks("a row of sevenths and thirds", thirds, 2, 3);
        dueRanks("a number beside it", with(thirds, 2, 0, 9), 3, 4);
    }

    private static void dueRanks(String what, int[] numbers, int rank, int wideRank) {
        due("rank() of " + what, desk(numbers).rank(), rank);
        due("wideRank() of " + what, desk(numbers).wideRank(), wideRank);
        due("rankOf(15) of " + what, desk(numbers).rankOf(15), rank);
    }

    // ---- Promise 1

    private static void newObject() {
        sentence("Promise 1: All numbers 0.");
        dueState("new DeterminantDesk()", new DeterminantDesk(), ZEROS);
        DeterminantDesk used = desk(LIMITS);
        dueNumbers("new beside a used one", new DeterminantDesk(), ZEROS);
        dueNumbers("a new one was made", used, LIMITS);
        // All answers are 0 but these three.
        long others = Arrays.stream(questions(new DeterminantDesk())).filter(answer -> answer != 0).count();
        due("the number of questions with another answer than 0", (int) others, 3);
        due("coefficient(4)", new DeterminantDesk().coefficient(4), 1);
        due("shifted(-50)", new DeterminantDesk().shifted(-50), 6250000);
        due("shifted(19)", new DeterminantDesk().shifted(19), 130321);
    }

    // ---- Promise 2

    private static void set() {
        sentence("Promise 2: (j = 4: number i of the COLUMN)");
        for (int i = 0; i < 4; i++) {
            setTo(i, 4, 33);
        }
        sentence("Promise 2: false, changing nothing, when i is not 0 .. 3");
        for (int j = 0; j <= 4; j++) {
            setTo(0, j, 33);
            setTo(3, j, 33);
            for (int bad : NO_LINE) {
                setRefused(bad, j, 33);
            }
        }
        sentence("Promise 2: false, changing nothing, when j is not 0 .. 4");
        for (int i = 0; i < 4; i++) {
            setTo(i, 0, 33);
            setTo(i, 4, 33);
            for (int bad : NO_WIDE_COLUMN) {
                setRefused(i, bad, 33);
            }
        }
        sentence("Promise 2: false, changing nothing, when v is not -50 .. 50");
        for (int n = 0; n < 20; n++) {
            setTo(n / 5, n % 5, -50);
            setTo(n / 5, n % 5, 50);
            for (int bad : NO_NUMBER) {
                setRefused(n / 5, n % 5, bad);
            }
        }
        sentence("Promise 2: false when more than one of them is so");
        setRefused(-1, -1, -51);
        setRefused(4, 5, 51);
        setRefused(1, 5, 51);
        setRefused(-1, 5, 0);
        setRefused(1, -5, 0);
        setRefused(4, 4, 51);
    }

    private static void setTo(int i, int j, int v) {
        String name = "set(" + i + ", " + j + ", " + v + ")";
        accepted(MIXED, name, YES, x -> bit(x.set(i, j, v)), with(MIXED, i, j, v));
    }

    private static void setRefused(int i, int j, int v) {
        refused("set(" + i + ", " + j + ", " + v + ")", NO, x -> bit(x.set(i, j, v)));
    }

    // ---- Promise 3

    private static void at() {
        sentence("Promise 3: (j = 4: number i of the COLUMN)");
        for (int i = 0; i < 4; i++) {
            due("at(" + i + ", 4)", desk(MIXED).at(i, 4), MIXED[i * 5 + 4]);
            due("at(" + i + ", 3)", desk(MIXED).at(i, 3), MIXED[i * 5 + 3]);
        }
        sentence("Promise 3: BAD when there is none.");
        for (int n = 0; n < 20; n++) {
            due("at(" + n / 5 + ", " + n % 5 + ")", desk(MIXED).at(n / 5, n % 5), MIXED[n]);
        }
        for (int bad : NO_LINE) {
            for (int j = 0; j <= 4; j++) {
                atRefused(bad, j);
            }
        }
        for (int bad : NO_WIDE_COLUMN) {
            for (int i = 0; i < 4; i++) {
                atRefused(i, bad);
            }
        }
        atRefused(-1, -1);
        atRefused(-1, 5);
        atRefused(4, -1);
        atRefused(4, 5);
    }

    private static void atRefused(int i, int j) {
        refused("at(" + i + ", " + j + ")", BAD, x -> x.at(i, j));
    }

    // ---- Promise 4

    private static void swapRows() {
        sentence("Promise 4: Exchanges the rows i and k of the matrix (not of the COLUMN) and answers true");
        for (int i = 0; i < 4; i++) {
            for (int k = 0; k < 4; k++) {
                swapTo(i, k);
            }
        }
        sentence("Promise 4: false when one is not 0 .. 3.");
        for (int bad : NO_LINE) {
            for (int i = 0; i < 4; i++) {
                swapRefused(bad, i);
                swapRefused(i, bad);
            }
            swapRefused(bad, bad);
            swapRefused(bad, -1);
            swapRefused(4, bad);
        }
    }

    private static void swapTo(int i, int k) {
        int[] numbers = MIXED.clone();
        System.arraycopy(MIXED, i * 5, numbers, k * 5, 4);
        System.arraycopy(MIXED, k * 5, numbers, i * 5, 4);
        accepted(MIXED, "swapRows(" + i + ", " + k + ")", YES, x -> bit(x.swapRows(i, k)), numbers);
    }

    private static void swapRefused(int i, int k) {
        refused("swapRows(" + i + ", " + k + ")", NO, x -> bit(x.swapRows(i, k)));
    }

    // ---- Promise 5

    private static void addRow() {
        sentence("Promise 5: Adds f times row k to row i of the matrix (not of the COLUMN) and answers true");
        addRowLeavesColumn();
        sentence("Promise 5: true with f = 0, which is in -9 .. 9");
        addRowOfNothing();
        sentence("Promise 5: false, changing nothing, when i = k");
        for (int i = 0; i < 4; i++) {
            for (int f = -9; f <= 9; f++) {
                addRefused(i, i, f);
            }
        }
        sentence("Promise 5: false, changing nothing, when one is not 0 .. 3");
        for (int bad : NO_LINE) {
            for (int i = 0; i < 4; i++) {
                addRefused(bad, i, 0);
                addRefused(i, bad, 0);
                addRefused(bad, i, 1);
                addRefused(i, bad, 1);
            }
            addRefused(bad, bad, 0);
            addRefused(bad, -1, 1);
        }
        sentence("Promise 5: false, changing nothing, when f is not -9 .. 9");
        addRowFactors();
        sentence("Promise 5: false, changing nothing, when some number would not be -50 .. 50");
        addRowLimits();
    }

    private static void addRefused(int i, int k, int f) {
        refused("addRow(" + i + ", " + k + ", " + f + ")", NO, x -> bit(x.addRow(i, k, f)));
    }

    private static void addTo(int[] start, int i, int k, int f, int... numbers) {
        accepted(start, "addRow(" + i + ", " + k + ", " + f + ")", YES, x -> bit(x.addRow(i, k, f)), numbers);
    }

    private static void addRefusedFrom(int[] start, int i, int k, int f) {
        refusedFrom(start, "addRow(" + i + ", " + k + ", " + f + ")", NO, x -> bit(x.addRow(i, k, f)));
    }

    /** The COLUMN's own sum would be 500, or -400: it is neither made nor looked at. */
    private static void addRowLeavesColumn() {
        for (int i = 0; i < 4; i++) {
            for (int k = 0; k < 4; k++) {
                if (i != k) {
                    int[] start = {1, 2, 3, 4, 50, 5, -1, -2, -3, 50, -4, -5, 0, 1, 50, 2, 3, -2, -1, 50};
                    addTo(start, i, k, 9, sums(start, i, k, 9));
                    addTo(start, i, k, -9, sums(start, i, k, -9));
                    addTo(start, i, k, 1, sums(start, i, k, 1));
                    addTo(start, i, k, -1, sums(start, i, k, -1));
                }
            }
        }
    }

    private static int[] sums(int[] start, int i, int k, int f) {
        int[] numbers = start.clone();
        for (int j = 0; j < 4; j++) {
            numbers[i * 5 + j] = start[i * 5 + j] + f * start[k * 5 + j];
        }
        return numbers;
    }

    private static void addRowOfNothing() {
        for (int[] start : STARTS) {
            for (int i = 0; i < 4; i++) {
                for (int k = 0; k < 4; k++) {
                    if (i != k) {
                        addTo(start, i, k, 0, start);
                    }
                }
            }
        }
    }

    private static void addRowFactors() {
        for (int f = -9; f <= 9; f++) {
            addTo(ZEROS, 0, 3, f, ZEROS);
            addTo(with(ZEROS, 3, 1, 5), 0, 3, f, with(with(ZEROS, 3, 1, 5), 0, 1, 5 * f));
        }
        for (int bad : NO_FACTOR) {
            for (int i = 0; i < 4; i++) {
                addRefused(i, 3 - i, bad);
                addRefused(i, i, bad);
                addRefusedFrom(with(ZEROS, 3 - i, 1, 1), i, 3 - i, bad);
            }
        }
    }

    /** The sum in one place comes to the limit, or one over it, while the other places stay inside. */
    private static void addRowLimits() {
        for (int n = 0; n < 64; n++) {
            int i = n / 16;
            int k = n / 4 % 4;
            int j = n % 4;
            if (i != k) {
                for (int sign = -1; sign <= 1; sign += 2) {
                    addRowLimit(i, k, j, sign, 41, 1, 9);
                    addRowLimit(i, k, j, sign, -40, 10, 9);
                    addRowLimit(i, k, j, sign, -50, 50, 2);
                    addRowLimit(i, k, j, sign, 0, 50, 1);
                    addRowLimit(i, k, j, sign, 0, -50, -1);
                    addRowLimit(i, k, j, sign, 41, -1, -9);
                    addRowLimit(i, k, j, sign, 50, 0, 9);
                }
            }
        }
        addRefusedFrom(LIMITS, 0, 1, 9);
        addRefusedFrom(LIMITS, 0, 1, -9);
        int[] allOver = {50, 50, 50, 50, 0, 50, 50, 50, 50, 0, -50, -50, -50, -50, 0, 0, 0, 0, 0, 0};
        addRefusedFrom(allOver, 0, 1, 9);
        addRefusedFrom(allOver, 2, 1, -9);
        addTo(allOver, 2, 1, 2, sums(allOver, 2, 1, 2));
        addTo(allOver, 0, 1, -2, sums(allOver, 0, 1, -2));
    }

    /** old + f * added is 50: so it is accepted, and refused once old (or, at 50, added) is one step further. */
    private static void addRowLimit(int i, int k, int j, int sign, int old, int added, int f) {
        int[] start = MIXED.clone();
        for (int column = 0; column < 4; column++) {
            start[i * 5 + column] = column + 1;
            start[k * 5 + column] = column - 2;
        }
        start = with(with(start, i, j, sign * old), k, j, sign * added);
        addTo(start, i, k, f, sums(start, i, k, f));
        if (old < 50) {
            addRefusedFrom(with(start, i, j, sign * (old + 1)), i, k, f);
        } else {
            addRefusedFrom(with(start, k, j, sign), i, k, f);
        }
    }

    // ---- Promise 6

    private static void transpose() {
        sentence("Promise 6: Exchanges rows and columns of the matrix (so not of the COLUMN)");
        for (int[] start : STARTS) {
            int[] numbers = start.clone();
            for (int i = 0; i < 4; i++) {
                for (int j = 0; j < 4; j++) {
                    numbers[i * 5 + j] = start[j * 5 + i];
                }
            }
            DeterminantDesk x = desk(start);
            x.transpose();
            dueState("transpose()", x, numbers);
            x.transpose();
            dueNumbers("transpose() twice", x, start);
        }
    }

    // ---- Promises 7 to 9. That no answer is greater or smaller, CornerTest shows.

    private static final String GREATEST = "++++ +-+- ++-- +--+";
    private static final String SMALLEST = "++++ ++-- +-+- +--+";

    private static void determinant() {
        sentence("Promise 7: The determinant, up to the greatest and down to the smallest.");
        due("determinant()", signs(GREATEST).determinant(), 100000000);
        due("determinant()", signs(SMALLEST).determinant(), -100000000);
        due("determinant() of equal rows", signs("++++ ++++ ++++ ++++").determinant(), 0);
        due("determinant() of a row of 0", signs("++++ +-+- 0000 +--+").determinant(), 0);
        due("determinant() of a column of 0", signs("+++0 +-+0 ++-0 +--0").determinant(), 0);
        due("determinant() without the COLUMN", desk(LIMITS).determinant(), 100000000);
    }

    private static void minor() {
        sentence("Promise 8: BAD when one is not 0 .. 3.");
        for (int bad : NO_LINE) {
            for (int i = 0; i < 4; i++) {
                minorRefused(bad, i);
                minorRefused(i, bad);
            }
            minorRefused(bad, bad);
            minorRefused(bad, -1);
            minorRefused(4, bad);
        }
        sentence("Promise 8: The determinant of the matrix without row i and column j, up to the greatest and down to the smallest.");
        for (int i = 0; i < 4; i++) {
            for (int j = 0; j < 4; j++) {
                minorOf(i, j, "++- -++ +-+", 500000);
                minorOf(i, j, "-++ ++- +-+", -500000);
                minorOf(i, j, "+++ +++ +++", 0);
            }
        }
    }

    private static void minorRefused(int i, int j) {
        refused("minor(" + i + ", " + j + ")", BAD, x -> x.minor(i, j));
    }

    /** The three rows stand around row i and column j, which are all 50. */
    private static void minorOf(int i, int j, String rows, int want) {
        int[] numbers = signNumbers("++++ ++++ ++++ ++++");
        for (int n = 0; n < 9; n++) {
            int row = n / 3 < i ? n / 3 : n / 3 + 1;
            int column = n % 3 < j ? n % 3 : n % 3 + 1;
            numbers[row * 5 + column] = signNumber(rows.charAt(n / 3 * 4 + n % 3));
        }
        String name = "minor(" + i + ", " + j + ") with " + rows;
        accepted(numbers, name, want, x -> x.minor(i, j), numbers);
    }

    private static void replaced() {
        sentence("Promise 9: BAD when j is not 0 .. 3.");
        for (int bad : NO_LINE) {
            refused("replaced(" + bad + ")", BAD, x -> x.replaced(bad));
        }
        sentence("Promise 9: The determinant of the matrix with column j replaced by the COLUMN, up to the greatest and down to the smallest.");
        for (int j = 0; j < 4; j++) {
            replacedTo(j, GREATEST, 100000000);
            replacedTo(j, SMALLEST, -100000000);
            due("replaced(" + j + ") by a COLUMN of 0", signs(GREATEST).replaced(j), 0);
        }
    }

    /** Column j of the matrix is put into the COLUMN, and zeros in its place. */
    private static void replacedTo(int j, String rows, int want) {
        int[] numbers = signNumbers(rows);
        for (int i = 0; i < 4; i++) {
            numbers[i * 5 + 4] = numbers[i * 5 + j];
            numbers[i * 5 + j] = 0;
        }
        accepted(numbers, "replaced(" + j + ")", want, x -> x.replaced(j), numbers);
        accepted(numbers, "determinant() beside replaced(" + j + ")", 0, DeterminantDesk::determinant, numbers);
    }

    // ---- Promises 10 and 11

    private static void rank() {
        sentence("Promise 10: The rank of the matrix, from 0 to 4.");
        due("rank() of all 0", signs("0000 0000 0000 0000").rank(), 0);
        for (int n = 0; n < 16; n++) {
            int[] alone = with(ZEROS, n / 4, n % 4, n % 2 == 0 ? 1 : -50);
            due("rank() of one number at place " + n, desk(alone).rank(), 1);
        }
        due("rank() of all 50", signs("++++ ++++ ++++ ++++").rank(), 1);
        due("rank() of two", signs("++++ ---- +-+- -+-+").rank(), 2);
        due("rank() of three", signs("++++ +-+- ++-- ----").rank(), 3);
        due("rank() of four", signs(GREATEST).rank(), 4);
        due("rank() of four in the other diagonal", signs("000+ 00-0 0+00 -000").rank(), 4);
        due("rank() without the COLUMN", desk(0, 0, 0, 0, 50, 0, 0, 0, 0, -50, 0, 0, 0, 0, 1, 0, 0, 0, 0, 2).rank(), 0);
    }

    private static void wideRank() {
        sentence("Promise 11: The rank of the matrix with the COLUMN as a fifth column, from 0 to 4.");
        due("wideRank() of all 0", new DeterminantDesk().wideRank(), 0);
        for (int i = 0; i < 4; i++) {
            due("wideRank() of one number in the COLUMN", desk(with(ZEROS, i, 4, -1)).wideRank(), 1);
            due("rank() beside it", desk(with(ZEROS, i, 4, -1)).rank(), 0);
        }
        int[] three = signNumbers("+000 0+00 00+0 0000");
        due("wideRank() of three with a COLUMN of 0", desk(three).wideRank(), 3);
        due("wideRank() of three with a COLUMN of the same", desk(with(three, 2, 4, 1)).wideRank(), 3);
        due("wideRank() of three with a COLUMN of its own", desk(with(three, 3, 4, 1)).wideRank(), 4);
        int[] sumOfColumns = {1, 0, 0, 1, 3, 0, 1, 0, 1, 5, 0, 0, 1, 1, 7, 1, 1, 1, 3, 15};
        due("wideRank() of three with a COLUMN that is a sum of columns", desk(sumOfColumns).wideRank(), 3);
        due("wideRank() of three with a COLUMN one beside it", desk(with(sumOfColumns, 3, 4, 16)).wideRank(), 4);
        // The number of the COLUMN stands in the one row where the matrix has only zeros.
        int[] rowOfItsOwn = with(with(ZEROS, 0, 4, 1), 1, 0, 1);
        due("wideRank() of a row in the COLUMN alone", desk(rowOfItsOwn).wideRank(), 2);
        due("wideRank() of four: there is no fifth row", desk(LIMITS).wideRank(), 4);
        due("wideRank() of four with a COLUMN of 0", signs(GREATEST).wideRank(), 4);
    }

    // ---- Promises 12 and 13

    private static void coefficient() {
        sentence("Promise 12: BAD when k is not 0 .. 4.");
        for (int bad : NO_WIDE_COLUMN) {
            refused("coefficient(" + bad + ")", BAD, x -> x.coefficient(bad));
        }
        for (int[] start : STARTS) {
            due("coefficient(4)", desk(start).coefficient(4), 1);
            due("coefficient(0)", desk(start).coefficient(0), desk(start).determinant());
        }
        sentence("Promise 12: The coefficient of x to the power k, up to the greatest and down to the smallest.");
        due("coefficient(0)", signs(GREATEST).coefficient(0), 100000000);
        due("coefficient(0)", signs(SMALLEST).coefficient(0), -100000000);
        due("coefficient(1)", signs("-+-+ ---+ ++-- ----").coefficient(1), 2000000);
        due("coefficient(1)", signs("-++- +-+- ++-- ----").coefficient(1), -2000000);
        due("coefficient(2)", signs("-+++ --++ ---+ ----").coefficient(2), 30000);
        due("coefficient(2)", signs("+--- -+-- ---- ----").coefficient(2), -20000);
        due("coefficient(3)", signs("---- ---- ---- ----").coefficient(3), 200);
        due("coefficient(3)", signs("+--- -+-- --+- ---+").coefficient(3), -200);
        due("coefficient(4)", signs(GREATEST).coefficient(4), 1);
        due("coefficient(4)", signs(SMALLEST).coefficient(4), 1);
    }

    private static void principal() {
        sentence("Promise 13: BAD when k is not 1 .. 4.");
        for (int bad : outside(1, 4)) {
            refused("principal(" + bad + ")", BAD, x -> x.principal(bad));
        }
        due("principal(1)", desk(MIXED).principal(1), 7 + 10 - 6 + 3);
        due("principal(4)", desk(LIMITS).principal(4), 100000000);
        sentence("Promise 13: The sum of the determinants of all k by k matrices, up to the greatest and down to the smallest.");
        due("principal(1)", signs("+--- -+-- --+- ---+").principal(1), 200);
        due("principal(1)", signs("---- ---- ---- ----").principal(1), -200);
        due("principal(2)", signs("-+++ --++ ---+ ----").principal(2), 30000);
        due("principal(2)", signs("+--- -+-- ---- ----").principal(2), -20000);
        due("principal(3)", signs("-++- +-+- ++-- ----").principal(3), 2000000);
        due("principal(3)", signs("-+-+ ---+ ++-- ----").principal(3), -2000000);
        due("principal(4)", signs(GREATEST).principal(4), 100000000);
        due("principal(4)", signs(SMALLEST).principal(4), -100000000);
    }

    // ---- Promise 14

    private static void rankOf() {
        sentence("Promise 14: BAD when rows is not 0 .. 15.");
        for (int bad : outside(0, 15)) {
            refused("rankOf(" + bad + ")", BAD, x -> x.rankOf(bad));
        }
        // Each has bits 0 .. 3 that would be fine alone.
        for (int more = 16; more <= 255; more++) {
            int bad = more;
            refusedFrom(LIMITS, "rankOf(" + bad + ")", BAD, x -> x.rankOf(bad));
            refusedFrom(LIMITS, "rankOf(" + -bad + ")", BAD, x -> x.rankOf(-bad));
        }
        sentence("Promise 14: The rank of the rows whose bits (0 .. 3) are set, from none to all.");
        int[] column = {0, 0, 0, 0, 50, 0, 0, 0, 0, 50, 0, 0, 0, 0, 50, 0, 0, 0, 0, 50};
        for (int rows = 0; rows <= 15; rows++) {
            int some = rows == 0 ? 0 : 1;
            due("rankOf(" + rows + ") of all 0", new DeterminantDesk().rankOf(rows), 0);
            due("rankOf(" + rows + ") of equal rows", signs("+-+- +-+- +-+- +-+-").rankOf(rows), some);
            due("rankOf(" + rows + ") of rows apart", signs(GREATEST).rankOf(rows), Integer.bitCount(rows));
            due("rankOf(" + rows + ") of the COLUMN alone", desk(column).rankOf(rows), 0);
            for (int i = 0; i < 4; i++) {
                due("rankOf(" + rows + ") of row " + i + " alone", desk(with(ZEROS, i, 3, 1)).rankOf(rows), rows >> i & 1);
            }
        }
    }

    // ---- Promises 15 and 16

    private static void determinantWith() {
        sentence("Promise 15: BAD when set would answer false (i is not 0 .. 3)");
        for (int bad : NO_LINE) {
            for (int j = 0; j <= 4; j++) {
                withRefused(bad, j, 1);
            }
        }
        sentence("Promise 15: BAD when set would answer false (j is not 0 .. 4)");
        for (int bad : NO_WIDE_COLUMN) {
            for (int i = 0; i < 4; i++) {
                withRefused(i, bad, 1);
            }
        }
        sentence("Promise 15: BAD when set would answer false (v is not -50 .. 50)");
        for (int bad : NO_NUMBER) {
            for (int n = 0; n < 20; n++) {
                withRefused(n / 5, n % 5, bad);
            }
        }
        sentence("Promise 15: BAD when j is 4.");
        for (int i = 0; i < 4; i++) {
            for (int v = -50; v <= 50; v += 10) {
                withRefused(i, 4, v);
            }
        }
        sentence("Promise 15: The determinant with one number replaced by v, up to the greatest and down to the smallest.");
        for (int n = 0; n < 16; n++) {
            determinantWithTo(n / 4, n % 4, GREATEST, 100000000);
            determinantWithTo(n / 4, n % 4, SMALLEST, -100000000);
        }
    }

    private static void withRefused(int i, int j, int v) {
        String name = "determinantWith(" + i + ", " + j + ", " + v + ")";
        refused(name, BAD, x -> x.determinantWith(i, j, v));
    }

    /** The number is v, the other limit or 0 before, and stays so. */
    private static void determinantWithTo(int i, int j, String rows, int want) {
        int[] numbers = signNumbers(rows);
        int v = numbers[i * 5 + j];
        for (int before = -50; before <= 50; before += 50) {
            int[] start = with(numbers, i, j, before);
            String name = "determinantWith(" + i + ", " + j + ", " + v + ")";
            accepted(start, name, want, x -> x.determinantWith(i, j, v), start);
        }
    }

    private static void shifted() {
        sentence("Promise 16: BAD when v is not -50 .. 50.");
        for (int bad : NO_NUMBER) {
            refused("shifted(" + bad + ")", BAD, x -> x.shifted(bad));
        }
        for (int v = -50; v <= 50; v++) {
            due("shifted(" + v + ") of all 0", new DeterminantDesk().shifted(v), v * v * v * v);
        }
        sentence("Promise 16: The determinant of the matrix plus v times the unit matrix, whose numbers may go past 50.");
        int[] up = signNumbers("+000 0+00 00+0 000+");
        int[] down = signNumbers("-000 0-00 00-0 000-");
        accepted(up, "shifted(50)", 100000000, x -> x.shifted(50), up);
        accepted(up, "shifted(-50)", 0, x -> x.shifted(-50), up);
        accepted(down, "shifted(-50)", 100000000, x -> x.shifted(-50), down);
        accepted(down, "shifted(50)", 0, x -> x.shifted(50), down);
        accepted(LIMITS, "shifted(0)", 100000000, x -> x.shifted(0), LIMITS);
        sentence("Promise 16: The determinant of the matrix plus v times the unit matrix, up to the greatest and down to the smallest.");
        due("shifted(-50)", signs("-+-+ --++ +--+ ----").shifted(-50), 306250000);
        due("shifted(50)", signs("++++ -++- --++ -+-+").shifted(50), 306250000);
        due("shifted(-50)", signs("-++- +-+- ++-- ----").shifted(-50), -168750000);
        due("shifted(50)", signs("---- -+-- --+- ---+").shifted(50), -168750000);
    }

    // ---- Promise 17

    private static final Call[] REFUSED_BY_FALSE = {
        x -> bit(x.set(-1, 0, 1)), x -> bit(x.set(4, 0, 1)), x -> bit(x.set(0, -1, 1)), x -> bit(x.set(0, 5, 1)),
        x -> bit(x.set(0, 0, -51)), x -> bit(x.set(0, 0, 51)), x -> bit(x.swapRows(-1, 0)),
        x -> bit(x.swapRows(0, 4)), x -> bit(x.addRow(2, 2, 1)), x -> bit(x.addRow(-1, 0, 1)),
        x -> bit(x.addRow(0, 4, 1)), x -> bit(x.addRow(0, 1, -10)), x -> bit(x.addRow(0, 1, 10))};

    private static final Call[] REFUSED_BY_CODE = {
        x -> x.at(-1, 0), x -> x.at(4, 0), x -> x.at(0, -1), x -> x.at(0, 5), x -> x.minor(-1, 0),
        x -> x.minor(0, 4), x -> x.replaced(-1), x -> x.replaced(4), x -> x.coefficient(-1),
        x -> x.coefficient(5), x -> x.principal(0), x -> x.principal(5), x -> x.rankOf(-1), x -> x.rankOf(16),
        x -> x.determinantWith(4, 0, 1), x -> x.determinantWith(0, 4, 1), x -> x.determinantWith(0, 0, 51),
        x -> x.shifted(-51), x -> x.shifted(51)};

    private static void orderAndLimits() {
        sentence("Promise 17: a call that is refused by false changes nothing");
        refusedOneAfterAnother(REFUSED_BY_FALSE, NO);
        sentence("Promise 17: a call that is refused by a code below 0 that is named changes nothing");
        due("BAD", DeterminantDesk.BAD, BAD);
        refusedOneAfterAnother(REFUSED_BY_CODE, BAD);
        sentence("Promise 17: a refused call does not change what the next calls do");
        refusedBetweenChanges();
    }

    private static void refusedOneAfterAnother(Call[] calls, int code) {
        for (int[] start : STARTS) {
            DeterminantDesk x = desk(start);
            for (int n = 0; n < 5 * calls.length; n++) {
                due("refused call " + n % calls.length, calls[n % calls.length].on(x), code);
            }
            dueState("refused calls one after another", x, start);
        }
    }

    private static void refusedBetweenChanges() {
        DeterminantDesk x = desk(MIXED);
        refuseAll(x);
        due("set(2, 4, -50)", bit(x.set(2, 4, -50)), YES);
        refuseAll(x);
        due("swapRows(0, 3)", bit(x.swapRows(0, 3)), YES);
        refuseAll(x);
        due("addRow(1, 2, -2)", bit(x.addRow(1, 2, -2)), YES);
        refuseAll(x);
        x.transpose();
        refuseAll(x);
        dueState("changes with refused calls between", x,
                1, -16, 4, 7, 21,
                -13, -8, 9, -3, -17,
                8, 14, -6, 12, -50,
                3, -39, 14, 5, -2);
    }

    private static void refuseAll(DeterminantDesk x) {
        for (Call call : REFUSED_BY_FALSE) {
            due("a refused call between", call.on(x), NO);
        }
        for (Call call : REFUSED_BY_CODE) {
            due("a refused call between", call.on(x), BAD);
        }
    }

    // ---- What it is: at most 512 calls

    private static void calls512() {
        sentence("An object is used for at most 512 calls: the 512th answers as the first");
        Call[] calls = {
            x -> bit(x.set(3, 4, 50)), x -> x.at(3, 4), x -> bit(x.swapRows(0, 3)), x -> bit(x.addRow(0, 1, 1)),
            DeterminantDesk::determinant, x -> x.minor(3, 0), x -> x.replaced(2), DeterminantDesk::rank,
            DeterminantDesk::wideRank, x -> x.coefficient(1), x -> x.principal(3), x -> x.rankOf(7),
            x -> x.determinantWith(0, 0, 50), x -> x.shifted(50), x -> bit(x.set(0, 0, 51)), x -> x.at(4, 4)};
        for (Call last : calls) {
            DeterminantDesk x = desk(MIXED);
            for (int call = 21; call < 512; call++) {
                // These answer the same each time and leave the numbers as they are.
                Call same = calls[call % 10 + 4];
                due("call " + call, same.on(x), same.on(desk(MIXED)));
            }
            due("call 512", last.on(x), last.on(desk(MIXED)));
        }
    }
}
