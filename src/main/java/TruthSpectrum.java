/** Four truth tables of six variables, and their forms, spectra and symmetries. */
public final class TruthSpectrum {
    public static final int BAD_ARG = -1000;

    private static final int TABLES = 4;
    private static final int POINTS = 64;
    private static final int VARIABLES = 6;
    private static final long ONE_EVERYWHERE = -1L;

    // A table has as many points as a long has bits: bit x is the table at point x.
    private final long[] tables = new long[TABLES];

    public TruthSpectrum() {
    }

    public int put(int t, int x, int v) {
        if (!isTable(t) || !isPoint(x) || (v != 0 && v != 1)) {
            return BAD_ARG;
        }
        long place = 1L << x;
        int before = valueAt(tables[t], x);
        tables[t] = v == 1 ? tables[t] | place : tables[t] & ~place;
        return before;
    }

    public int turnForm(int t, int u) {
        if (!isTable(t) || !isPoint(u)) {
            return BAD_ARG;
        }
        // The form's value at u counts at exactly the points that hold u.
        tables[t] ^= pointsHolding(u);
        return countOnes(tables[t]);
    }

    public int combine(int t, int op, int r, int s) {
        if (!isTable(t) || op < 0 || op > 3 || !isTable(r) || !isTable(s)) {
            return BAD_ARG;
        }
        tables[t] = combined(op, tables[r], tables[s]);
        return countOnes(tables[t]);
    }

    public int shift(int t, int r, int a, int b) {
        if (!isTable(t) || !isTable(r) || !isPoint(a) || !isPoint(b)) {
            return BAD_ARG;
        }
        tables[t] = moved(tables[r], a) ^ linear(b);
        return countOnes(tables[t]);
    }

    public int value(int t, int x) {
        if (!isTable(t) || !isPoint(x)) {
            return BAD_ARG;
        }
        return valueAt(tables[t], x);
    }

    public int ones(int t) {
        if (!isTable(t)) {
            return BAD_ARG;
        }
        return countOnes(tables[t]);
    }

    public int form(int t, int u) {
        if (!isTable(t) || !isPoint(u)) {
            return BAD_ARG;
        }
        return formAt(tables[t], u);
    }

    public int degree(int t) {
        if (!isTable(t)) {
            return BAD_ARG;
        }
        int greatest = 0;
        for (int u = 0; u < POINTS; u++) {
            int size = sizeOf(u);
            if (size > greatest && formAt(tables[t], u) == 1) {
                greatest = size;
            }
        }
        return greatest;
    }

    public int spectrum(int t, int a) {
        if (!isTable(t) || !isPoint(a)) {
            return BAD_ARG;
        }
        return spectrumAt(tables[t], a);
    }

    public int distance(int t) {
        if (!isTable(t)) {
            return BAD_ARG;
        }
        int a = nearestPoint(tables[t]);
        return changesTowards(tables[t], a);
    }

    public int nearest(int t) {
        if (!isTable(t)) {
            return BAD_ARG;
        }
        return nearestPoint(tables[t]);
    }

    public int immunity(int t) {
        if (!isTable(t)) {
            return BAD_ARG;
        }
        int greatest = VARIABLES;
        for (int a = 1; a < POINTS; a++) {
            int size = sizeOf(a);
            if (size <= greatest && spectrumAt(tables[t], a) != 0) {
                greatest = size - 1;
            }
        }
        return greatest;
    }

    public int autocorrelation(int t, int a) {
        if (!isTable(t) || !isPoint(a)) {
            return BAD_ARG;
        }
        long other = moved(tables[t], a);
        return sumOfSigns(tables[t] ^ other);
    }

    public int variables(int t) {
        if (!isTable(t)) {
            return BAD_ARG;
        }
        int set = 0;
        for (int i = 0; i < VARIABLES; i++) {
            int digit = 1 << i;
            if (moved(tables[t], digit) != tables[t]) {
                set |= digit;
            }
        }
        return set;
    }

    public int structures(int t) {
        if (!isTable(t)) {
            return BAD_ARG;
        }
        int count = 0;
        for (int a = 0; a < POINTS; a++) {
            long differing = tables[t] ^ moved(tables[t], a);
            if (differing == 0L || differing == ONE_EVERYWHERE) {
                count++;
            }
        }
        return count;
    }

    public boolean shifted(int t, int r) {
        if (!isTable(t) || !isTable(r)) {
            return false;
        }
        for (int a = 0; a < POINTS; a++) {
            long rest = tables[t] ^ moved(tables[r], a);
            // b.x at the points of size 1 gives the digits of b, so only one b can fit this a.
            int b = valuesAtSingleDigits(rest);
            if (linear(b) == rest) {
                return true;
            }
        }
        return false;
    }

    private static boolean isTable(int t) {
        return t >= 0 && t < TABLES;
    }

    private static boolean isPoint(int x) {
        return x >= 0 && x < POINTS;
    }

    private static int valueAt(long table, int x) {
        return (int) ((table >>> x) & 1L);
    }

    private static int countOnes(long table) {
        int count = 0;
        for (int x = 0; x < POINTS; x++) {
            count += valueAt(table, x);
        }
        return count;
    }

    private static int sizeOf(int point) {
        int size = 0;
        for (int i = 0; i < VARIABLES; i++) {
            size += (point >>> i) & 1;
        }
        return size;
    }

    private static long combined(int op, long r, long s) {
        switch (op) {
            case 0:
                return r ^ s;
            case 1:
                return r & s;
            case 2:
                return r | s;
            default:
                return ~(r ^ s);
        }
    }

    /** The table that is, at every x, the given one at x ^ a. */
    private static long moved(long table, int a) {
        long result = 0L;
        for (int x = 0; x < POINTS; x++) {
            long bit = (table >>> (x ^ a)) & 1L;
            result |= bit << x;
        }
        return result;
    }

    /** The table that is a.x at every x. */
    private static long linear(int a) {
        long result = 0L;
        for (int x = 0; x < POINTS; x++) {
            long odd = sizeOf(a & x) & 1;
            result |= odd << x;
        }
        return result;
    }

    /** The table that is 1 where all digits of u are 1. */
    private static long pointsHolding(int u) {
        long result = 0L;
        for (int x = 0; x < POINTS; x++) {
            if ((x & u) == u) {
                result |= 1L << x;
            }
        }
        return result;
    }

    /** The table that is 1 where no digit outside u is 1. */
    private static long pointsWithin(int u) {
        long result = 0L;
        for (int x = 0; x < POINTS; x++) {
            if ((x & u) == x) {
                result |= 1L << x;
            }
        }
        return result;
    }

    // Going from table to form is the same sum as going from form to table:
    // the form at u is the exclusive or of the table at all points within u.
    private static int formAt(long table, int u) {
        long within = pointsWithin(u);
        return countOnes(table & within) & 1;
    }

    /** The sum over all points of 1 where the given table is 0, and -1 where it is 1. */
    private static int sumOfSigns(long differing) {
        return POINTS - 2 * countOnes(differing);
    }

    private static int spectrumAt(long table, int a) {
        long simple = linear(a);
        return sumOfSigns(table ^ simple);
    }

    /** At how many points the table must change to become a.x or its opposite. */
    private static int changesTowards(long table, int a) {
        long simple = linear(a);
        int changes = countOnes(table ^ simple);
        return changes <= POINTS - changes ? changes : POINTS - changes;
    }

    private static int nearestPoint(long table) {
        int nearestSoFar = 0;
        int fewest = POINTS;
        for (int a = 0; a < POINTS; a++) {
            int changes = changesTowards(table, a);
            if (changes < fewest) {
                fewest = changes;
                nearestSoFar = a;
            }
        }
        return nearestSoFar;
    }

    private static int valuesAtSingleDigits(long table) {
        int digits = 0;
        for (int i = 0; i < VARIABLES; i++) {
            int digit = 1 << i;
            digits |= valueAt(table, digit) << i;
        }
        return digits;
    }
}
