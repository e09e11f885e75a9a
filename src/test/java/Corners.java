import java.math.BigInteger;

/** All corners of {x : rows of equations hold, none of x below 0}, found by trying every set of columns. */
final class Corners {
    private final long[][] rows;
    private final int unknowns;
    private boolean any = false;
    /** Of each unknown at all corners: the least and the greatest, as fractions. */
    private final long[][] least;
    private final long[][] greatest;

    Corners(long[][] rows) {
        this.rows = rows;
        this.unknowns = rows.length == 0 ? 0 : rows[0].length - 1;
        least = new long[unknowns][];
        greatest = new long[unknowns][];
        int rank = rank();
        for (int set = 0; set < 1 << unknowns; set++) {
            if (Integer.bitCount(set) == rank) {
                tryCorner(set);
            }
        }
    }

    boolean any() {
        return any;
    }

    /** Needs any(); what as in bounds(). */
    long extreme(int unknown, int what) {
        long[] fraction = what < 2 ? least[unknown] : greatest[unknown];
        return fraction[what % 2];
    }

    private int rank() {
        long[][] m = new long[rows.length][];
        for (int i = 0; i < rows.length; i++) {
            m[i] = java.util.Arrays.copyOf(rows[i], unknowns);
        }
        return eliminate(m, unknowns);
    }

    /** Whole-number elimination, each row divided by what its cells have in common; the rank. */
    private static int eliminate(long[][] m, int columns) {
        int rank = 0;
        for (int j = 0; j < columns && rank < m.length; j++) {
            int at = rank;
            while (at < m.length && m[at][j] == 0) {
                at++;
            }
            if (at == m.length) {
                continue;
            }
            long[] swap = m[at];
            m[at] = m[rank];
            m[rank] = swap;
            for (int i = 0; i < m.length; i++) {
                if (i != rank && m[i][j] != 0) {
                    subtract(m[i], m[rank], j);
                }
            }
            rank++;
        }
        return rank;
    }

    private static void subtract(long[] row, long[] by, int j) {
        long f = row[j];
        long common = 0;
        for (int k = 0; k < row.length; k++) {
            row[k] = Math.subtractExact(Math.multiplyExact(row[k], by[j]), Math.multiplyExact(f, by[k]));
            common = gcd(common, row[k]);
        }
        for (int k = 0; k < row.length && common > 1; k++) {
            row[k] /= common;
        }
    }

    private static long gcd(long a, long b) {
        return BigInteger.valueOf(a).gcd(BigInteger.valueOf(b)).longValueExact();
    }

    private void tryCorner(int set) {
        int size = Integer.bitCount(set);
        int[] columns = new int[size];
        for (int j = 0, k = 0; j < unknowns; j++) {
            if ((set >> j & 1) == 1) {
                columns[k++] = j;
            }
        }
        long[][] m = new long[rows.length][size + 1];
        for (int i = 0; i < rows.length; i++) {
            for (int k = 0; k < size; k++) {
                m[i][k] = rows[i][columns[k]];
            }
            m[i][size] = rows[i][unknowns];
        }
        if (eliminate(m, size) < size) {
            return;
        }
        for (int i = 0; i < m.length; i++) {
            boolean missed = i >= size ? m[i][size] != 0 : Long.signum(m[i][size]) * Long.signum(m[i][i]) < 0;
            if (missed) {
                return;
            }
        }
        any = true;
        long[][] corner = new long[unknowns][];
        for (int j = 0; j < unknowns; j++) {
            corner[j] = new long[] {0, 1};
        }
        for (int k = 0; k < size; k++) {
            long common = gcd(m[k][size], m[k][k]);
            corner[columns[k]] = new long[] {Math.abs(m[k][size] / common), Math.abs(m[k][k] / common)};
        }
        for (int j = 0; j < unknowns; j++) {
            least[j] = least[j] == null || below(corner[j], least[j]) ? corner[j] : least[j];
            greatest[j] = greatest[j] == null || below(greatest[j], corner[j]) ? corner[j] : greatest[j];
        }
    }

    private static boolean below(long[] a, long[] b) {
        return Math.multiplyExact(a[0], b[1]) < Math.multiplyExact(b[0], a[1]);
    }
}
