/** Each promise of the document with ordinary inputs, its edges and wrong inputs. The answers were worked out apart from the program. */
public final class PromiseTest {
    private static final int BAD = -1000000000;
    private static final int LEAST = Integer.MIN_VALUE;
    private static final int MOST = Integer.MAX_VALUE;

    // None is a row's number; some of them wrap to one when they are multiplied or narrowed.
    private static final int[] NO_LINE = {-1, 4, 5, 16, 256, 65536, 1 << 30, LEAST, LEAST + 1, MOST};
    private static final int[] NO_NUMBER = {-51, 51, 256, -256, 65536, LEAST, LEAST + 1, MOST};

    private static int wrong = 0;
    private static String promise = "";

    public static void main(String[] args) {
        newObject();
        set();
        at();
        swapRows();
        addRow();
        transpose();
        determinant();
        minor();
        replaced();
        rank();
        wideRank();
        coefficient();
        principal();
        rankOf();
        determinantWith();
        shifted();
        orderAndLimits();
        System.out.println(wrong == 0 ? "all promises hold" : wrong + " answers are not as due");
        if (wrong != 0) {
            System.exit(1);
        }
    }

    private static void due(String what, int got, int want) {
        if (got != want) {
            wrong++;
            System.out.println(promise + ": " + what + " answered " + got + ", due is " + want);
        }
    }

    private static void due(String what, boolean got, boolean want) {
        due(what, got ? 1 : 0, want ? 1 : 0);
    }

    /** Twenty numbers: row after row, each with its number of the COLUMN at its end. */
    private static DeterminantDesk desk(int... numbers) {
        DeterminantDesk x = new DeterminantDesk();
        for (int n = 0; n < 20; n++) {
            due("set for a desk", x.set(n / 5, n % 5, numbers[n]), true);
        }
        return x;
    }

    private static void dueNumbers(String when, DeterminantDesk x, int... numbers) {
        for (int n = 0; n < 20; n++) {
            due(when + ": at(" + n / 5 + ", " + n % 5 + ")", x.at(n / 5, n % 5), numbers[n]);
        }
    }

    private static final int[] COUNTED = {
        1, 2, 3, 4, 5,
        6, 7, 8, 9, 10,
        11, 12, 13, 14, 15,
        16, 17, 18, 19, 20};

    // Its determinant is 2 * 3 * 5 * 7; its minors and sums can be told at a glance.
    private static final int[] DIAGONAL = {
        2, 0, 0, 0, 1,
        0, 3, 0, 0, 4,
        0, 0, 5, 0, -6,
        0, 0, 0, 7, 8};

    private static final int[] HADAMARD = {
        50, 50, 50, 50, 0,
        50, -50, 50, -50, 0,
        50, 50, -50, -50, 0,
        50, -50, -50, 50, 0};

    // Products of its numbers reach 2 to the power 40: where an int wraps, its rank is lost.
    private static final int[] POWERS_OF_TWO = {
        32, 0, 0, 0, 32,
        0, 32, 0, 0, 32,
        0, 0, 32, 0, 32,
        0, 0, 0, 32, 32};

    private static void newObject() {
        promise = "promise 1";
        dueNumbers("new", new DeterminantDesk(), new int[20]);
        DeterminantDesk used = desk(COUNTED);
        dueNumbers("new beside a used one", new DeterminantDesk(), new int[20]);
        dueNumbers("used beside a new one", used, COUNTED);
    }

    private static void set() {
        promise = "promise 2";
        DeterminantDesk x = desk(COUNTED);
        dueNumbers("after set", x, COUNTED);
        due("set(3, 4, 50)", x.set(3, 4, 50), true);
        due("at(3, 4)", x.at(3, 4), 50);
        due("set(3, 4, -50)", x.set(3, 4, -50), true);
        due("at(3, 4)", x.at(3, 4), -50);
        due("set(3, 4, 20)", x.set(3, 4, 20), true);
        for (int bad : NO_LINE) {
            due("set(" + bad + ", 0, 33)", x.set(bad, 0, 33), false);
            due("set(" + bad + ", 4, 33)", x.set(bad, 4, 33), false);
            due("set(1, " + bad + ", 33)", x.set(1, bad, 33), bad == 4);
        }
        due("set(1, 4, 10)", x.set(1, 4, 10), true);
        for (int bad : NO_NUMBER) {
            due("set(2, 2, " + bad + ")", x.set(2, 2, bad), false);
            due("set(2, 4, " + bad + ")", x.set(2, 4, bad), false);
        }
        dueNumbers("after refused set", x, COUNTED);
    }

    private static void at() {
        promise = "promise 3";
        DeterminantDesk x = desk(COUNTED);
        due("at(0, 0)", x.at(0, 0), 1);
        due("at(3, 0)", x.at(3, 0), 16);
        due("at(0, 3)", x.at(0, 3), 4);
        due("at(0, 4)", x.at(0, 4), 5);
        due("at(3, 4)", x.at(3, 4), 20);
        for (int bad : NO_LINE) {
            due("at(" + bad + ", 0)", x.at(bad, 0), BAD);
            due("at(" + bad + ", 4)", x.at(bad, 4), BAD);
            due("at(2, " + bad + ")", x.at(2, bad), bad == 4 ? 15 : BAD);
            due("at(0, " + bad + ")", x.at(0, bad), bad == 4 ? 5 : BAD);
        }
    }

    private static void swapRows() {
        promise = "promise 4";
        DeterminantDesk x = desk(COUNTED);
        due("swapRows(0, 2)", x.swapRows(0, 2), true);
        dueNumbers("after swapRows(0, 2)", x,
                11, 12, 13, 14, 5,
                6, 7, 8, 9, 10,
                1, 2, 3, 4, 15,
                16, 17, 18, 19, 20);
        due("swapRows(2, 0)", x.swapRows(2, 0), true);
        for (int i = 0; i < 4; i++) {
            due("swapRows with itself", x.swapRows(i, i), true);
        }
        for (int bad : NO_LINE) {
            due("swapRows(" + bad + ", 0)", x.swapRows(bad, 0), false);
            due("swapRows(3, " + bad + ")", x.swapRows(3, bad), false);
            due("swapRows(" + bad + ", itself)", x.swapRows(bad, bad), false);
        }
        dueNumbers("after all", x, COUNTED);
    }

    private static void addRow() {
        promise = "promise 5";
        DeterminantDesk x = desk(COUNTED);
        due("addRow(3, 0, 7)", x.addRow(3, 0, 7), true);
        dueNumbers("after addRow(3, 0, 7)", x,
                1, 2, 3, 4, 5,
                6, 7, 8, 9, 10,
                11, 12, 13, 14, 15,
                23, 31, 39, 47, 20);
        due("addRow(3, 0, -7)", x.addRow(3, 0, -7), true);
        dueNumbers("after addRow(3, 0, -7)", x, COUNTED);
        due("addRow(2, 1, 0)", x.addRow(2, 1, 0), true);
        due("only the last number 51", x.addRow(3, 0, 8), false);
        due("only the first numbers too small", x.addRow(0, 1, -9), false);
        for (int i = 0; i < 4; i++) {
            due("addRow to itself", x.addRow(i, i, 1), false);
            due("addRow to itself, 0 times", x.addRow(i, i, 0), false);
        }
        for (int bad : NO_LINE) {
            due("addRow(" + bad + ", 0, 1)", x.addRow(bad, 0, 1), false);
            due("addRow(2, " + bad + ", 1)", x.addRow(2, bad, 1), false);
            due("addRow(2, " + bad + ", 0)", x.addRow(2, bad, 0), false);
        }
        dueNumbers("after refused addRow", x, COUNTED);
        addRowFactors();
        addRowEdges();
    }

    private static void addRowFactors() {
        DeterminantDesk x = desk(DIAGONAL);
        due("addRow(1, 0, 9)", x.addRow(1, 0, 9), true);
        due("at(1, 0)", x.at(1, 0), 18);
        due("addRow(1, 0, -9)", x.addRow(1, 0, -9), true);
        int[] badFactors = {10, -10, 256, 1 << 30, LEAST, MOST};
        for (int bad : badFactors) {
            due("addRow(1, 0, " + bad + ")", x.addRow(1, 0, bad), false);
            due("addRow of zeros, " + bad + " times", new DeterminantDesk().addRow(1, 0, bad), false);
        }
        dueNumbers("after refused factors", x, DIAGONAL);
    }

    private static void addRowEdges() {
        DeterminantDesk x = desk(
                41, -41, 0, 0, 50,
                1, -1, 0, 0, 50,
                0, 0, 0, 0, 0,
                0, 0, 0, 0, 0);
        due("up to the limits, over them in the COLUMN", x.addRow(0, 1, 9), true);
        dueNumbers("at the limits", x,
                50, -50, 0, 0, 50,
                1, -1, 0, 0, 50,
                0, 0, 0, 0, 0,
                0, 0, 0, 0, 0);
        for (int j = 0; j < 4; j++) {
            for (int sign = -1; sign <= 1; sign += 2) {
                DeterminantDesk y = desk(new int[20]);
                y.set(2, j, 50 * sign);
                y.set(3, j, sign);
                y.set(3, (j + 1) % 4, 7);
                due("one number over the limit", y.addRow(2, 3, 1), false);
                due("the number over", y.at(2, j), 50 * sign);
                due("a number beside it", y.at(2, (j + 1) % 4), 0);
                due("one number back from the limit", y.addRow(2, 3, -1), true);
                due("the number back", y.at(2, j), 49 * sign);
                due("a number beside it", y.at(2, (j + 1) % 4), -7);
            }
        }
    }

    private static void transpose() {
        promise = "promise 6";
        DeterminantDesk x = desk(COUNTED);
        x.transpose();
        dueNumbers("after transpose", x,
                1, 6, 11, 16, 5,
                2, 7, 12, 17, 10,
                3, 8, 13, 18, 15,
                4, 9, 14, 19, 20);
        x.transpose();
        dueNumbers("after transpose twice", x, COUNTED);
    }

    private static void determinant() {
        promise = "promise 7";
        due("all 0", new DeterminantDesk().determinant(), 0);
        due("diagonal", desk(DIAGONAL).determinant(), 210);
        due("counted", desk(COUNTED).determinant(), 0);
        due("the greatest", desk(HADAMARD).determinant(), 100000000);
        DeterminantDesk x = desk(HADAMARD);
        x.swapRows(1, 2);
        due("the least", x.determinant(), -100000000);
        due("ordinary", desk(
                2, 1, 0, 3, 0,
                4, -1, 5, 0, 0,
                0, 7, 2, 2, 0,
                1, 1, 1, 1, 0).determinant(), -9);
        everyPermutation();
    }

    /** A lone product at a time, so that no term of the sum can be missing or have the wrong sign. */
    private static void everyPermutation() {
        int[] values = {2, 3, 5, 7};
        for (int code = 0; code < 256; code++) {
            int[] to = {code & 3, code >> 2 & 3, code >> 4 & 3, code >> 6 & 3};
            DeterminantDesk x = new DeterminantDesk();
            int sign = 1;
            for (int i = 0; i < 4; i++) {
                x.set(i, to[i], values[i]);
                for (int k = 0; k < i; k++) {
                    sign *= Integer.compare(to[i], to[k]);
                }
            }
            due("columns " + java.util.Arrays.toString(to), x.determinant(), 210 * sign);
        }
    }

    private static void minor() {
        promise = "promise 8";
        int[] values = {105, 70, 42, 30};
        DeterminantDesk x = desk(DIAGONAL);
        for (int i = 0; i < 4; i++) {
            for (int j = 0; j < 4; j++) {
                due("minor(" + i + ", " + j + ")", x.minor(i, j), i == j ? values[i] : 0);
            }
        }
        dueNumbers("after minor", x, DIAGONAL);
        minorsWithoutSign();
        due("minor(1, 1)", desk(HADAMARD).minor(1, 1), -500000);
        for (int bad : NO_LINE) {
            due("minor(" + bad + ", 0)", x.minor(bad, 0), BAD);
            due("minor(0, " + bad + ")", x.minor(0, bad), BAD);
            due("minor(" + bad + ", " + bad + ")", x.minor(bad, bad), BAD);
        }
    }

    /** What is left without row i and column j is the unit matrix of three rows, wherever these are. */
    private static void minorsWithoutSign() {
        for (int i = 0; i < 4; i++) {
            for (int j = 0; j < 4; j++) {
                DeterminantDesk x = new DeterminantDesk();
                for (int n = 0; n < 4; n++) {
                    x.set(i, n, 40 + n);
                    x.set(n, j, 30 + n);
                }
                for (int n = 0; n < 3; n++) {
                    x.set(n < i ? n : n + 1, n < j ? n : n + 1, 1);
                }
                due("minor(" + i + ", " + j + ") of units", x.minor(i, j), 1);
            }
        }
    }

    private static void replaced() {
        promise = "promise 9";
        DeterminantDesk x = desk(DIAGONAL);
        due("replaced(0)", x.replaced(0), 105);
        due("replaced(1)", x.replaced(1), 280);
        due("replaced(2)", x.replaced(2), -252);
        due("replaced(3)", x.replaced(3), 240);
        dueNumbers("after replaced", x, DIAGONAL);
        due("determinant after replaced", x.determinant(), 210);
        for (int bad : NO_LINE) {
            due("replaced(" + bad + ")", x.replaced(bad), BAD);
        }
        x.swapRows(0, 1);
        due("replaced(0) when the rows, not the COLUMN, are exchanged", x.replaced(0), -420);
    }

    private static void rank() {
        promise = "promise 10";
        due("all 0", new DeterminantDesk().rank(), 0);
        due("counted", desk(COUNTED).rank(), 2);
        due("diagonal", desk(DIAGONAL).rank(), 4);
        due("the greatest", desk(HADAMARD).rank(), 4);
        due("powers of two", desk(POWERS_OF_TWO).rank(), 4);
        due("the COLUMN is not the matrix's", desk(
                0, 0, 0, 0, 1,
                0, 0, 0, 0, 2,
                0, 0, 0, 0, 3,
                0, 0, 0, 0, 4).rank(), 0);
        due("a lone last number", desk(
                0, 0, 0, 0, 0,
                0, 0, 0, 0, 0,
                0, 0, 0, 0, 0,
                0, 0, 0, -1, 0).rank(), 1);
        due("columns without a pivot between", desk(
                0, 3, 6, 1, 0,
                0, 2, 4, 5, 0,
                0, 1, 2, 0, 0,
                0, 0, 0, 9, 0).rank(), 2);
        due("three", desk(
                0, 0, 1, 0, 0,
                1, 0, 0, 0, 0,
                0, 1, 0, 0, 0,
                1, 1, 1, 0, 0).rank(), 3);
        due("four, by a determinant of 1", desk(
                50, 49, 0, 0, 0,
                49, 48, 0, 0, 0,
                0, 0, 50, 49, 0,
                0, 0, 49, 48, 0).rank(), 4);
    }

    private static void wideRank() {
        promise = "promise 11";
        due("all 0", new DeterminantDesk().wideRank(), 0);
        due("counted", desk(COUNTED).wideRank(), 2);
        due("diagonal", desk(DIAGONAL).wideRank(), 4);
        due("powers of two", desk(POWERS_OF_TWO).wideRank(), 4);
        due("the COLUMN's number goes with its row", desk(
                0, 0, 0, 0, 1,
                1, 0, 0, 0, 0,
                0, 0, 0, 0, 0,
                0, 0, 0, 0, 0).wideRank(), 2);
        due("the COLUMN alone", desk(
                0, 0, 0, 0, 0,
                0, 0, 0, 0, 0,
                0, 0, 0, 0, 0,
                0, 0, 0, 0, 4).wideRank(), 1);
        due("the COLUMN adds one", desk(
                1, 2, 3, 4, 1,
                1, 2, 3, 4, 2,
                0, 0, 0, 0, 0,
                0, 0, 0, 0, 0).wideRank(), 2);
        due("the COLUMN makes four", desk(
                1, 0, 0, 1, 0,
                0, 1, 0, 1, 0,
                0, 0, 1, 1, 0,
                1, 1, 1, 3, 1).wideRank(), 4);
        due("the COLUMN is a sum of columns", desk(
                1, 0, 0, 1, 3,
                0, 1, 0, 1, 5,
                0, 0, 1, 1, 7,
                1, 1, 1, 3, 15).wideRank(), 3);
    }

    private static void coefficient() {
        promise = "promise 12";
        DeterminantDesk x = desk(DIAGONAL);
        int[] values = {210, -247, 101, -17, 1};
        for (int k = 0; k <= 4; k++) {
            due("coefficient(" + k + ")", x.coefficient(k), values[k]);
            due("coefficient(" + k + ") of all 0", new DeterminantDesk().coefficient(k), k == 4 ? 1 : 0);
        }
        dueNumbers("after coefficient", x, DIAGONAL);
        int[] bads = {-1, 5, 6, LEAST, MOST};
        for (int bad : bads) {
            due("coefficient(" + bad + ")", x.coefficient(bad), BAD);
        }
        due("coefficient(0) of the greatest", desk(HADAMARD).coefficient(0), 100000000);
        due("coefficient(2) of the greatest", desk(HADAMARD).coefficient(2), -20000);
    }

    private static void principal() {
        promise = "promise 13";
        DeterminantDesk x = desk(DIAGONAL);
        int[] values = {BAD, 17, 101, 247, 210, BAD};
        for (int k = 0; k <= 5; k++) {
            due("principal(" + k + ")", x.principal(k), values[k]);
        }
        dueNumbers("after principal", x, DIAGONAL);
        int[] bads = {-1, 6, LEAST, MOST};
        for (int bad : bads) {
            due("principal(" + bad + ")", x.principal(bad), BAD);
        }
        DeterminantDesk y = desk(
                2, 1, 0, 3, 0,
                4, -1, 5, 0, 0,
                0, 7, 2, 2, 0,
                1, 1, 1, 1, 0);
        int[] others = {0, 4, -41, -104, -9};
        for (int k = 1; k <= 4; k++) {
            due("principal(" + k + ")", y.principal(k), others[k]);
        }
    }

    private static void rankOf() {
        promise = "promise 14";
        DeterminantDesk x = desk(
                1, 2, 3, 4, 9,
                2, 4, 6, 8, 0,
                0, 0, 0, 0, 7,
                0, 1, 0, 0, 0);
        int[] values = {0, 1, 1, 1, 0, 1, 1, 1, 1, 2, 2, 2, 1, 2, 2, 2};
        for (int rows = 0; rows <= 15; rows++) {
            due("rankOf(" + rows + ")", x.rankOf(rows), values[rows]);
            due("rankOf(" + rows + ") of diagonal", desk(DIAGONAL).rankOf(rows), Integer.bitCount(rows));
        }
        int[] bads = {-1, 16, 17, 31, 256, LEAST, MOST};
        for (int bad : bads) {
            due("rankOf(" + bad + ")", x.rankOf(bad), BAD);
        }
    }

    private static void determinantWith() {
        promise = "promise 15";
        DeterminantDesk x = desk(DIAGONAL);
        due("determinantWith(0, 0, 50)", x.determinantWith(0, 0, 50), 5250);
        due("determinantWith(1, 1, -50)", x.determinantWith(1, 1, -50), -3500);
        due("determinantWith(3, 3, 0)", x.determinantWith(3, 3, 0), 0);
        due("determinantWith(0, 3, 9)", x.determinantWith(0, 3, 9), 210);
        dueNumbers("after determinantWith", x, DIAGONAL);
        due("determinant after determinantWith", x.determinant(), 210);
        for (int bad : NO_LINE) {
            due("determinantWith(" + bad + ", 0, 1)", x.determinantWith(bad, 0, 1), BAD);
            due("determinantWith(0, " + bad + ", 1)", x.determinantWith(0, bad, 1), BAD);
            due("determinantWith(3, " + bad + ", 1)", x.determinantWith(3, bad, 1), BAD);
        }
        for (int bad : NO_NUMBER) {
            due("determinantWith(2, 2, " + bad + ")", x.determinantWith(2, 2, bad), BAD);
        }
        DeterminantDesk y = desk(COUNTED);
        y.set(0, 0, 0);
        y.set(1, 2, 0);
        due("determinantWith(2, 3, -50)", y.determinantWith(2, 3, -50), -15664);
    }

    private static void shifted() {
        promise = "promise 16";
        DeterminantDesk x = desk(DIAGONAL);
        due("shifted(0)", x.shifted(0), 210);
        due("shifted(1)", x.shifted(1), 3 * 4 * 6 * 8);
        due("shifted(-3)", x.shifted(-3), 0);
        due("shifted(50)", x.shifted(50), 52 * 53 * 55 * 57);
        due("shifted(-50)", x.shifted(-50), 48 * 47 * 45 * 43);
        dueNumbers("after shifted", x, DIAGONAL);
        for (int bad : NO_NUMBER) {
            due("shifted(" + bad + ")", x.shifted(bad), BAD);
        }
        due("shifted(50) of all 50 on the diagonal", desk(
                50, 0, 0, 0, 0,
                0, 50, 0, 0, 0,
                0, 0, 50, 0, 0,
                0, 0, 0, 50, 0).shifted(50), 100000000);
        // No matrix has a greater answer than the first, or a lesser one than the second.
        due("the greatest shifted(50)", desk(
                50, 50, 50, 50, 0,
                -50, 50, 50, -50, 0,
                -50, -50, 50, 50, 0,
                -50, 50, -50, 50, 0).shifted(50), 306250000);
        due("the least shifted(50)", desk(
                -50, -50, -50, -50, 0,
                -50, 50, -50, -50, 0,
                -50, -50, 50, -50, 0,
                -50, -50, -50, 50, 0).shifted(50), -168750000);
    }

    private static void orderAndLimits() {
        promise = "promise 17";
        DeterminantDesk x = desk(COUNTED);
        x.set(4, 4, 1);
        x.set(0, 5, 1);
        x.set(0, 0, 51);
        x.at(-1, 0);
        x.swapRows(0, 4);
        x.swapRows(-1, 3);
        x.addRow(0, 0, 1);
        x.addRow(3, 2, 9);
        x.addRow(0, 1, 10);
        x.minor(0, 4);
        x.replaced(4);
        x.coefficient(5);
        x.principal(0);
        x.rankOf(16);
        x.determinantWith(0, 4, 1);
        x.determinantWith(0, 0, 51);
        x.shifted(51);
        dueNumbers("after refused calls", x, COUNTED);
        due("determinant", x.determinant(), 0);
        due("rank", x.rank(), 2);
        lastOf512Calls();
    }

    private static void lastOf512Calls() {
        DeterminantDesk x = new DeterminantDesk();
        for (int call = 1; call < 512; call++) {
            due("call " + call, x.set(call % 4, call % 4, call % 50), true);
        }
        // The calls 508 .. 511 are the last to set the four numbers: 8, 9, 10 and 11.
        due("call 512", x.determinant(), 8 * 9 * 10 * 11);
    }
}
