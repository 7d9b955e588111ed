/** Calculates exactly with a matrix of four rows and four columns. */
public final class DeterminantDesk {
    public static final int BAD = -1000000000;

    private static final int SIZE = 4;
    private static final int WIDE = 5;
    private static final int NUMBER_LIMIT = 50;
    private static final int FACTOR_LIMIT = 9;
    private static final int ALL_ROWS = 15;

    // Each row has five places: four for the matrix, and the last for its number of the COLUMN.
    private final int[] numbers = new int[20];

    // The four by four matrix whose determinant is asked for: queries change this, never the numbers.
    private final int[] work = new int[16];

    // The rows whose rank is asked for. They grow while they are reduced, so they are long.
    private final long[] reduced = new long[20];

    public DeterminantDesk() {
    }

    public boolean set(int i, int j, int v) {
        if (!isPlace(i, j) || !isNumber(v)) {
            return false;
        }
        numbers[i * WIDE + j] = v;
        return true;
    }

    public int at(int i, int j) {
        if (!isPlace(i, j)) {
            return BAD;
        }
        return numbers[i * WIDE + j];
    }

    public boolean swapRows(int i, int k) {
        if (!isLine(i) || !isLine(k)) {
            return false;
        }
        for (int j = 0; j < SIZE; j++) {
            swapNumbers(i * WIDE + j, k * WIDE + j);
        }
        return true;
    }

    public boolean addRow(int i, int k, int f) {
        if (!isLine(i) || !isLine(k) || i == k) {
            return false;
        }
        if (f < -FACTOR_LIMIT || f > FACTOR_LIMIT) {
            return false;
        }
        // All four sums are looked at before one is kept, so that a refusal changes nothing.
        for (int j = 0; j < SIZE; j++) {
            int sum = numbers[i * WIDE + j] + f * numbers[k * WIDE + j];
            if (!isNumber(sum)) {
                return false;
            }
        }
        for (int j = 0; j < SIZE; j++) {
            numbers[i * WIDE + j] += f * numbers[k * WIDE + j];
        }
        return true;
    }

    public void transpose() {
        for (int i = 0; i < SIZE; i++) {
            for (int j = 0; j < i; j++) {
                swapNumbers(i * WIDE + j, j * WIDE + i);
            }
        }
    }

    public int determinant() {
        copyMatrixToWork();
        return workDeterminant();
    }

    public int minor(int i, int j) {
        if (!isLine(i) || !isLine(j)) {
            return BAD;
        }
        copyMatrixToWork();
        reduceWorkToUnit(i, j);
        int signed = workDeterminant();
        // The determinant's expansion gives every second place a minus, which the minor has not.
        return (i + j) % 2 == 0 ? signed : -signed;
    }

    public int replaced(int j) {
        if (!isLine(j)) {
            return BAD;
        }
        copyMatrixToWork();
        for (int i = 0; i < SIZE; i++) {
            work[i * SIZE + j] = numbers[i * WIDE + SIZE];
        }
        return workDeterminant();
    }

    public int rank() {
        return rankOfPart(ALL_ROWS, SIZE);
    }

    public int wideRank() {
        return rankOfPart(ALL_ROWS, WIDE);
    }

    public int coefficient(int k) {
        if (k < 0 || k > SIZE) {
            return BAD;
        }
        // x is taken from k places of the diagonal; what is left is a principal minor of minus the matrix.
        int left = SIZE - k;
        int sum = sumOfPrincipals(left);
        return left % 2 == 0 ? sum : -sum;
    }

    public int principal(int k) {
        if (k < 1 || k > SIZE) {
            return BAD;
        }
        return sumOfPrincipals(k);
    }

    public int rankOf(int rows) {
        if (rows < 0 || rows > ALL_ROWS) {
            return BAD;
        }
        return rankOfPart(rows, SIZE);
    }

    public int determinantWith(int i, int j, int v) {
        if (!isLine(i) || !isLine(j) || !isNumber(v)) {
            return BAD;
        }
        copyMatrixToWork();
        work[i * SIZE + j] = v;
        return workDeterminant();
    }

    public int shifted(int v) {
        if (!isNumber(v)) {
            return BAD;
        }
        copyMatrixToWork();
        for (int i = 0; i < SIZE; i++) {
            work[i * SIZE + i] += v;
        }
        return workDeterminant();
    }

    private static boolean isLine(int i) {
        return i >= 0 && i < SIZE;
    }

    private static boolean isPlace(int i, int j) {
        return isLine(i) && j >= 0 && j < WIDE;
    }

    private static boolean isNumber(int v) {
        return v >= -NUMBER_LIMIT && v <= NUMBER_LIMIT;
    }

    private static boolean hasBit(int mask, int bit) {
        return (mask >> bit & 1) == 1;
    }

    private static int countBits(int mask) {
        int count = 0;
        for (int bit = 0; bit < SIZE; bit++) {
            count += mask >> bit & 1;
        }
        return count;
    }

    private void swapNumbers(int first, int second) {
        int kept = numbers[first];
        numbers[first] = numbers[second];
        numbers[second] = kept;
    }

    private void copyMatrixToWork() {
        for (int i = 0; i < SIZE; i++) {
            for (int j = 0; j < SIZE; j++) {
                work[i * SIZE + j] = numbers[i * WIDE + j];
            }
        }
    }

    // With a lone 1 in its row and its column, a place leaves the determinant of all the others,
    // up to its sign: so one way to work out a determinant serves the smaller ones too.
    private void reduceWorkToUnit(int row, int column) {
        for (int n = 0; n < SIZE; n++) {
            work[row * SIZE + n] = 0;
            work[n * SIZE + column] = 0;
        }
        work[row * SIZE + column] = 1;
    }

    // Laplace's expansion along the upper two rows. The numbers are at most 50, or 100 on a shifted
    // diagonal: a pair is at most 12500, and the six products together stay within an int.
    private int workDeterminant() {
        int sum = upperPair(0, 1) * lowerPair(2, 3);
        sum -= upperPair(0, 2) * lowerPair(1, 3);
        sum += upperPair(0, 3) * lowerPair(1, 2);
        sum += upperPair(1, 2) * lowerPair(0, 3);
        sum -= upperPair(1, 3) * lowerPair(0, 2);
        sum += upperPair(2, 3) * lowerPair(0, 1);
        return sum;
    }

    private int upperPair(int left, int right) {
        return work[left] * work[SIZE + right] - work[right] * work[SIZE + left];
    }

    private int lowerPair(int left, int right) {
        int third = 2 * SIZE;
        int fourth = 3 * SIZE;
        return work[third + left] * work[fourth + right] - work[third + right] * work[fourth + left];
    }

    private int sumOfPrincipals(int size) {
        int sum = 0;
        for (int kept = 0; kept <= ALL_ROWS; kept++) {
            if (countBits(kept) == size) {
                sum += principalMinor(kept);
            }
        }
        return sum;
    }

    private int principalMinor(int kept) {
        copyMatrixToWork();
        for (int i = 0; i < SIZE; i++) {
            if (!hasBit(kept, i)) {
                reduceWorkToUnit(i, i);
            }
        }
        return workDeterminant();
    }

    private int rankOfPart(int rows, int width) {
        copyRowsToReduced(rows);
        int found = 0;
        for (int column = 0; column < width && found < SIZE; column++) {
            int pivot = findPivot(found, column);
            if (pivot < SIZE) {
                swapReducedRows(found, pivot);
                clearBelow(found, column);
                found++;
            }
        }
        return found;
    }

    // A row of zeros adds nothing to a rank, so the rows that are left out are held as zeros.
    private void copyRowsToReduced(int rows) {
        for (int i = 0; i < SIZE; i++) {
            boolean kept = hasBit(rows, i);
            for (int j = 0; j < WIDE; j++) {
                reduced[i * WIDE + j] = kept ? numbers[i * WIDE + j] : 0;
            }
        }
    }

    // Answers SIZE when no row from there on has a number other than 0 in the column.
    private int findPivot(int from, int column) {
        for (int i = from; i < SIZE; i++) {
            if (reduced[i * WIDE + column] != 0) {
                return i;
            }
        }
        return SIZE;
    }

    private void swapReducedRows(int first, int second) {
        for (int j = 0; j < WIDE; j++) {
            long kept = reduced[first * WIDE + j];
            reduced[first * WIDE + j] = reduced[second * WIDE + j];
            reduced[second * WIDE + j] = kept;
        }
    }

    // Multiplies crosswise in place of dividing, so nothing is rounded. A row is cleared at most
    // three times, which takes 50 to 5000, to 5 * 10^7, to 5 * 10^15 at most: within a long.
    private void clearBelow(int top, int column) {
        long pivot = reduced[top * WIDE + column];
        for (int i = top + 1; i < SIZE; i++) {
            long factor = reduced[i * WIDE + column];
            for (int j = 0; j < WIDE; j++) {
                reduced[i * WIDE + j] = pivot * reduced[i * WIDE + j] - factor * reduced[top * WIDE + j];
            }
        }
    }
}
