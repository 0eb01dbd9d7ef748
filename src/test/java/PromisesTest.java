/**
 * Each promise of the document with answers worked out by hand. No object here gets more than 512
 * calls, since nothing is promised after that.
 */
public final class PromisesTest {
    private static final int BAD = -1000;
    private static final int[] NOT_TABLES = {-1, 4, 5, 63, 64, -4, Integer.MIN_VALUE, Integer.MAX_VALUE};
    private static final int[] NOT_POINTS = {-1, 64, 65, 127, 128, -64, Integer.MIN_VALUE, Integer.MAX_VALUE};
    private static final int[] NOT_BITS = {-1, 2, 3, Integer.MIN_VALUE, Integer.MAX_VALUE};
    private static final int[] NOT_OPS = {-1, 4, 5, Integer.MIN_VALUE, Integer.MAX_VALUE};

    public static void main(String[] args) {
        Check.due("BAD_ARG", TruthSpectrum.BAD_ARG, BAD);
        newObject();
        put();
        turnForm();
        combine();
        combineOntoItself();
        shift();
        shiftOntoItself();
        value();
        ones();
        form();
        degree();
        spectrum();
        distance();
        nearest();
        immunity();
        autocorrelation();
        variables();
        structures();
        shifted();
        wrongTables();
        lastPromisedCall();
        Check.end();
    }

    /** Table 0 is variable 0, 1 is variable 1, 2 is 1 at points 0, 31, 32 and 63 only, 3 is 1 everywhere. */
    private static TruthSpectrum sample() {
        TruthSpectrum s = new TruthSpectrum();
        s.turnForm(0, 1);
        s.turnForm(1, 2);
        s.put(2, 0, 1);
        s.put(2, 31, 1);
        s.put(2, 32, 1);
        s.put(2, 63, 1);
        s.turnForm(3, 0);
        return s;
    }

    private static int sampleValue(int t, int x) {
        if (t == 0) {
            return x & 1;
        }
        if (t == 1) {
            return (x >> 1) & 1;
        }
        if (t == 2) {
            return x == 0 || x == 31 || x == 32 || x == 63 ? 1 : 0;
        }
        return 1;
    }

    /** All tables but the one named (-1: all) must be those of the sample. */
    private static void isSample(String after, TruthSpectrum s, int butTable) {
        for (int t = 0; t < 4; t++) {
            for (int x = 0; x < 64 && t != butTable; x++) {
                Check.due("after " + after + ": value(" + t + ", " + x + ")", s.value(t, x), sampleValue(t, x));
            }
        }
    }

    private static void newObject() {
        TruthSpectrum s = new TruthSpectrum();
        for (int t = 0; t < 4; t++) {
            Check.due("new: ones", s.ones(t), 0);
            for (int x = 0; x < 64; x++) {
                Check.due("new: value(" + t + ", " + x + ")", s.value(t, x), 0);
            }
        }
        TruthSpectrum first = new TruthSpectrum();
        first.put(0, 0, 1);
        TruthSpectrum second = new TruthSpectrum();
        Check.due("a second object's value(0, 0)", second.value(0, 0), 0);
        second.put(0, 7, 1);
        Check.due("the first object's value(0, 7)", first.value(0, 7), 0);
    }

    private static void put() {
        int[] edges = {0, 1, 30, 31, 32, 33, 62, 63};
        for (int t = 0; t < 4; t++) {
            for (int x : edges) {
                TruthSpectrum s = new TruthSpectrum();
                String at = "(" + t + ", " + x + ", v)";
                Check.due("put 0 on 0 " + at, s.put(t, x, 0), 0);
                Check.due("put 1 on 0 " + at, s.put(t, x, 1), 0);
                Check.due("put 1 on 1 " + at, s.put(t, x, 1), 1);
                for (int k = 0; k < 4; k++) {
                    for (int y = 0; y < 64; y++) {
                        Check.due("value beside put " + at, s.value(k, y), k == t && y == x ? 1 : 0);
                    }
                }
                Check.due("put 0 on 1 " + at, s.put(t, x, 0), 1);
                Check.due("put 0 on 0 again " + at, s.put(t, x, 0), 0);
                Check.due("ones after put 0 " + at, s.ones(t), 0);
            }
        }
        TruthSpectrum full = sample();
        Check.due("put(3, 40, 0)", full.put(3, 40, 0), 1);
        for (int x = 0; x < 64; x++) {
            Check.due("value(3, " + x + ")", full.value(3, x), x == 40 ? 0 : 1);
        }
        TruthSpectrum s = sample();
        for (int x : NOT_POINTS) {
            Check.due("put(2, " + x + ", 0)", s.put(2, x, 0), BAD);
            Check.due("put(2, " + x + ", 1)", s.put(2, x, 1), BAD);
        }
        for (int v : NOT_BITS) {
            Check.due("put(2, 0, " + v + ")", s.put(2, 0, v), BAD);
            Check.due("put(2, 1, " + v + ")", s.put(2, 1, v), BAD);
        }
        isSample("refused put", s, -1);
    }

    private static void turnForm() {
        for (int u = 0; u < 64; u++) {
            TruthSpectrum s = new TruthSpectrum();
            Check.due("turnForm(1, " + u + ")", s.turnForm(1, u), 64 >> Integer.bitCount(u));
            for (int x = 0; x < 64; x++) {
                Check.due("value after turnForm " + u, s.value(1, x), (x & u) == u ? 1 : 0);
                Check.due("form after turnForm " + u, s.form(1, x), x == u ? 1 : 0);
                Check.due("other table after turnForm " + u, s.value(0, x), 0);
            }
            Check.due("turnForm(1, " + u + ") again", s.turnForm(1, u), 0);
        }
        TruthSpectrum two = new TruthSpectrum();
        two.turnForm(0, 1);
        Check.due("x0 ^ x1", two.turnForm(0, 2), 32);
        Check.due("x0 ^ x1 ^ x0x1 (or)", two.turnForm(0, 3), 48);
        Check.due("not or", two.turnForm(0, 0), 16);
        TruthSpectrum s = sample();
        for (int u : NOT_POINTS) {
            Check.due("turnForm(2, " + u + ")", s.turnForm(2, u), BAD);
        }
        isSample("refused turnForm", s, -1);
    }

    private static int combinedBit(int op, int r, int s) {
        if (op == 0) {
            return r == s ? 0 : 1;
        }
        if (op == 1) {
            return r == 1 && s == 1 ? 1 : 0;
        }
        if (op == 2) {
            return r == 1 || s == 1 ? 1 : 0;
        }
        return s == 1 ? r : 1 - r;
    }

    private static void combine() {
        int[] onesOfVariables = {32, 16, 48, 32};
        for (int op = 0; op < 4; op++) {
            TruthSpectrum v = sample();
            Check.due("combine(3, " + op + ", 0, 1)", v.combine(3, op, 0, 1), onesOfVariables[op]);
            isSample("combine op " + op, v, 3);
            for (int r = 0; r < 4; r++) {
                for (int q = 0; q < 4; q++) {
                    TruthSpectrum s = sample();
                    int answer = s.combine(3, op, r, q);
                    int due = 0;
                    for (int x = 0; x < 64; x++) {
                        int want = combinedBit(op, sampleValue(r, x), sampleValue(q, x));
                        due += want;
                        Check.due("value after combine(3, " + op + ", " + r + ", " + q + ")", s.value(3, x), want);
                    }
                    Check.due("combine(3, " + op + ", " + r + ", " + q + ")", answer, due);
                }
            }
        }
        TruthSpectrum s = sample();
        for (int op : NOT_OPS) {
            Check.due("combine(2, " + op + ", 0, 1)", s.combine(2, op, 0, 1), BAD);
        }
        for (int r : NOT_TABLES) {
            for (int op = 0; op < 4; op++) {
                Check.due("combine(2, " + op + ", " + r + ", 1)", s.combine(2, op, r, 1), BAD);
                Check.due("combine(2, " + op + ", 1, " + r + ")", s.combine(2, op, 1, r), BAD);
            }
        }
        isSample("refused combine", s, -1);
    }

    private static void combineOntoItself() {
        TruthSpectrum s = sample();
        Check.due("combine(0, 0, 0, 0)", s.combine(0, 0, 0, 0), 0);
        Check.due("combine(0, 3, 0, 0)", s.combine(0, 3, 0, 0), 64);
        Check.due("combine(2, 1, 2, 2)", s.combine(2, 1, 2, 2), 4);
        Check.due("combine(2, 2, 2, 2)", s.combine(2, 2, 2, 2), 4);
        Check.due("combine(2, 0, 2, 1): points 0 and 32 stay", s.combine(2, 0, 2, 1), 32);
        Check.due("value(2, 0)", s.value(2, 0), 1);
        Check.due("value(2, 31)", s.value(2, 31), 0);
        Check.due("value(2, 30)", s.value(2, 30), 1);
    }

    private static void shift() {
        TruthSpectrum one = new TruthSpectrum();
        one.put(1, 5, 1);
        Check.due("shift(0, 1, 3, 0)", one.shift(0, 1, 3, 0), 1);
        Check.due("value(0, 6)", one.value(0, 6), 1);
        Check.due("shift(0, 1, 3, 1), b.x at x and not at x ^ a", one.shift(0, 1, 3, 1), 33);
        Check.due("value(0, 6)", one.value(0, 6), 1);
        Check.due("value(0, 1)", one.value(0, 1), 1);
        Check.due("value(0, 2)", one.value(0, 2), 0);
        Check.due("value(1, 5), not moved", one.value(1, 5), 1);
        Check.due("ones(1)", one.ones(1), 1);
        for (int a = 0; a < 64; a++) {
            TruthSpectrum s = sample();
            int b = (a * 37 + 11) & 63;
            int answer = s.shift(3, 2, a, b);
            int due = 0;
            for (int x = 0; x < 64; x++) {
                int want = sampleValue(2, x ^ a) ^ (Integer.bitCount(b & x) & 1);
                due += want;
                Check.due("value(3, " + x + ") after shift(3, 2, " + a + ", " + b + ")", s.value(3, x), want);
            }
            Check.due("shift(3, 2, " + a + ", " + b + ")", answer, due);
            isSample("shift", s, 3);
        }
        TruthSpectrum s = sample();
        for (int p : NOT_POINTS) {
            Check.due("shift(2, 1, " + p + ", 0)", s.shift(2, 1, p, 0), BAD);
            Check.due("shift(2, 1, 0, " + p + ")", s.shift(2, 1, 0, p), BAD);
        }
        for (int r : NOT_TABLES) {
            Check.due("shift(2, " + r + ", 0, 0)", s.shift(2, r, 0, 0), BAD);
        }
        isSample("refused shift", s, -1);
    }

    private static void shiftOntoItself() {
        TruthSpectrum s = sample();
        Check.due("shift(2, 2, 1, 0)", s.shift(2, 2, 1, 0), 4);
        for (int x = 0; x < 64; x++) {
            Check.due("value(2, " + x + ")", s.value(2, x), sampleValue(2, x ^ 1));
        }
        Check.due("shift(2, 2, 1, 0) back", s.shift(2, 2, 1, 0), 4);
        isSample("shift there and back", s, -1);
    }

    private static void value() {
        TruthSpectrum s = sample();
        isSample("nothing", s, -1);
        for (int x : NOT_POINTS) {
            for (int t = 0; t < 4; t++) {
                Check.due("value(" + t + ", " + x + ")", s.value(t, x), BAD);
            }
        }
    }

    private static void ones() {
        TruthSpectrum s = sample();
        Check.due("ones(0)", s.ones(0), 32);
        Check.due("ones(1)", s.ones(1), 32);
        Check.due("ones(2)", s.ones(2), 4);
        Check.due("ones(3)", s.ones(3), 64);
        TruthSpectrum up = new TruthSpectrum();
        for (int x = 63; x >= 0; x--) {
            up.put(2, x, 1);
            Check.due("ones from the top", up.ones(2), 64 - x);
        }
    }

    private static void form() {
        TruthSpectrum origin = new TruthSpectrum();
        origin.put(0, 0, 1);
        origin.put(1, 63, 1);
        origin.put(2, 48, 1);
        for (int u = 0; u < 64; u++) {
            Check.due("form of 1 at 0 only, at " + u, origin.form(0, u), 1);
            Check.due("form of 1 at 63 only, at " + u, origin.form(1, u), u == 63 ? 1 : 0);
            Check.due("form of 1 at 48 only, at " + u, origin.form(2, u), (u & 48) == 48 ? 1 : 0);
            Check.due("form of nothing, at " + u, origin.form(3, u), 0);
        }
        for (int u : NOT_POINTS) {
            Check.due("form(0, " + u + ")", origin.form(0, u), BAD);
        }
    }

    private static void degree() {
        for (int u = 0; u < 64; u++) {
            TruthSpectrum s = new TruthSpectrum();
            s.turnForm(1, u);
            Check.due("degree of the form at " + u, s.degree(1), Integer.bitCount(u));
        }
        TruthSpectrum s = new TruthSpectrum();
        Check.due("degree of 0 everywhere", s.degree(0), 0);
        s.turnForm(0, 0);
        Check.due("degree of 1 everywhere", s.degree(0), 0);
        s.turnForm(0, 7);
        s.turnForm(0, 32);
        s.turnForm(0, 48);
        Check.due("degree with a great point of small size", s.degree(0), 3);
        s.turnForm(0, 7);
        Check.due("degree after the highest is turned off", s.degree(0), 2);
        s.put(1, 20, 1);
        Check.due("degree of an odd table", s.degree(1), 6);
        s.put(1, 21, 1);
        Check.due("degree of two points side by side", s.degree(1), 5);
    }

    private static void spectrum() {
        TruthSpectrum s = new TruthSpectrum();
        for (int a = 0; a < 64; a++) {
            Check.due("spectrum of 0 at " + a, s.spectrum(0, a), a == 0 ? 64 : 0);
        }
        s.shift(0, 0, 0, 42);
        s.combine(1, 3, 0, 3);
        s.put(2, 5, 1);
        for (int a = 0; a < 64; a++) {
            int signAt5 = Integer.bitCount(a & 5) % 2 == 0 ? 1 : -1;
            Check.due("spectrum of 42.x at " + a, s.spectrum(0, a), a == 42 ? 64 : 0);
            Check.due("spectrum of its opposite at " + a, s.spectrum(1, a), a == 42 ? -64 : 0);
            Check.due("spectrum of one point at " + a, s.spectrum(2, a), (a == 0 ? 64 : 0) - 2 * signAt5);
        }
        for (int a : NOT_POINTS) {
            Check.due("spectrum(0, " + a + ")", s.spectrum(0, a), BAD);
        }
    }

    private static TruthSpectrum bent() {
        TruthSpectrum s = new TruthSpectrum();
        s.turnForm(0, 3);
        s.turnForm(0, 12);
        s.turnForm(0, 48);
        return s;
    }

    private static void distance() {
        for (int a = 0; a < 64; a++) {
            TruthSpectrum s = new TruthSpectrum();
            s.shift(0, 1, 0, a);
            Check.due("distance of " + a + ".x", s.distance(0), 0);
            Check.due("nearest of " + a + ".x", s.nearest(0), a);
            s.turnForm(0, 0);
            Check.due("distance of the opposite of " + a + ".x", s.distance(0), 0);
            Check.due("nearest of the opposite of " + a + ".x", s.nearest(0), a);
        }
        Check.due("distance of a bent table", bent().distance(0), 28);
        TruthSpectrum s = new TruthSpectrum();
        for (int x = 0; x < 4; x++) {
            s.put(0, x * 9, 1);
            Check.due("distance of " + (x + 1) + " points", s.distance(0), x + 1);
        }
        s.turnForm(0, 0);
        Check.due("distance of all but four points", s.distance(0), 4);
        s.turnForm(1, 3);
        Check.due("distance of the and of two variables", s.distance(1), 16);
    }

    private static void nearest() {
        TruthSpectrum s = bent();
        Check.due("nearest of a bent table", s.nearest(0), 0);
        // x0 and x1 lie equally far from 0, x0, x1 and the opposite of x0 ^ x1: the least counts.
        s.turnForm(1, 3);
        Check.due("nearest of x0 and x1", s.nearest(1), 0);
        s.turnForm(1, 4);
        Check.due("nearest of (x0 and x1) ^ x2", s.nearest(1), 4);
        s.turnForm(1, 3);
        s.turnForm(1, 5);
        Check.due("nearest of x2 ^ (x0 and x2)", s.nearest(1), 0);
        // With 63.x on top the four equal ones are 63 ^ 0, 63 ^ 1, 63 ^ 2 and 63 ^ 3; 60 is reached by an opposite.
        TruthSpectrum high = new TruthSpectrum();
        high.turnForm(0, 3);
        high.shift(0, 0, 0, 63);
        Check.due("spectrum at 60", high.spectrum(0, 60), -32);
        Check.due("nearest when the least is an opposite", high.nearest(0), 60);
        // One change off the opposite of 17.x.
        TruthSpectrum far = new TruthSpectrum();
        far.shift(0, 0, 0, 17);
        far.turnForm(0, 0);
        far.put(0, 0, 0);
        Check.due("nearest beside an opposite", far.nearest(0), 17);
        Check.due("distance beside an opposite", far.distance(0), 1);
    }

    private static void immunity() {
        for (int a = 1; a < 64; a++) {
            TruthSpectrum s = new TruthSpectrum();
            s.shift(0, 0, 0, a);
            Check.due("immunity of " + a + ".x", s.immunity(0), Integer.bitCount(a) - 1);
            s.turnForm(0, 0);
            Check.due("immunity of the opposite of " + a + ".x", s.immunity(0), Integer.bitCount(a) - 1);
        }
        TruthSpectrum s = new TruthSpectrum();
        Check.due("immunity of 0 everywhere", s.immunity(0), 6);
        s.turnForm(0, 0);
        Check.due("immunity of 1 everywhere, spectrum at 0 not looked at", s.immunity(0), 6);
        s.put(0, 9, 0);
        Check.due("immunity of an odd table", s.immunity(0), 0);
        // 1 at 0 and 63 only: the spectrum is 0 at odd sizes and not at size 2.
        s.put(1, 0, 1);
        s.put(1, 63, 1);
        Check.due("immunity of points 0 and 63", s.immunity(1), 1);
        // 1 where the first three digits are 0 in sum and the last three too: only 7, 56 and 63 are not 0.
        s.shift(2, 3, 0, 7);
        s.shift(3, 3, 0, 56);
        s.combine(2, 1, 2, 3);
        Check.due("immunity of 7.x and 56.x", s.immunity(2), 2);
        Check.due("its spectrum at 0", s.spectrum(2, 0), 32);
    }

    private static void autocorrelation() {
        TruthSpectrum s = bent();
        s.shift(1, 3, 0, 42);
        s.put(2, 5, 1);
        for (int a = 0; a < 64; a++) {
            int sign = Integer.bitCount(a & 42) % 2 == 0 ? 1 : -1;
            Check.due("autocorrelation of a bent table at " + a, s.autocorrelation(0, a), a == 0 ? 64 : 0);
            Check.due("autocorrelation of 42.x at " + a, s.autocorrelation(1, a), 64 * sign);
            Check.due("autocorrelation of one point at " + a, s.autocorrelation(2, a), a == 0 ? 64 : 60);
            Check.due("autocorrelation of 0 at " + a, s.autocorrelation(3, a), 64);
        }
        for (int a : NOT_POINTS) {
            Check.due("autocorrelation(0, " + a + ")", s.autocorrelation(0, a), BAD);
        }
    }

    private static void variables() {
        for (int set = 0; set < 64; set++) {
            TruthSpectrum s = new TruthSpectrum();
            s.shift(0, 1, 0, set);
            Check.due("variables of " + set + ".x", s.variables(0), set);
            s.turnForm(1, set);
            Check.due("variables of the form at " + set, s.variables(1), set);
        }
        TruthSpectrum s = new TruthSpectrum();
        s.turnForm(0, 0);
        Check.due("variables of 1 everywhere", s.variables(0), 0);
        s.put(1, 40, 1);
        Check.due("variables of one point", s.variables(1), 63);
        s.put(1, 44, 1);
        Check.due("variables of two points that differ in digit 2", s.variables(1), 59);
        s.put(2, 0, 1);
        s.put(2, 63, 1);
        Check.due("variables of points 0 and 63", s.variables(2), 63);
    }

    private static void structures() {
        TruthSpectrum s = bent();
        Check.due("structures of a bent table", s.structures(0), 1);
        Check.due("structures of 0", s.structures(1), 64);
        s.turnForm(1, 0);
        Check.due("structures of 1", s.structures(1), 64);
        s.shift(1, 3, 0, 42);
        Check.due("structures of 42.x, half of them different everywhere", s.structures(1), 64);
        s.turnForm(2, 3);
        Check.due("structures of x0 and x1", s.structures(2), 16);
        s.turnForm(2, 12);
        Check.due("structures of x0x1 ^ x2x3", s.structures(2), 4);
        s.turnForm(2, 16);
        Check.due("structures of x0x1 ^ x2x3 ^ x4", s.structures(2), 4);
        TruthSpectrum t = new TruthSpectrum();
        t.put(0, 5, 1);
        Check.due("structures of one point", t.structures(0), 1);
        t.put(0, 58, 1);
        Check.due("structures of two points", t.structures(0), 2);
    }

    private static void shifted() {
        for (int a = 0; a < 64; a++) {
            TruthSpectrum s = new TruthSpectrum();
            s.turnForm(0, 7);
            s.turnForm(0, 56);
            s.turnForm(0, 21);
            int b = (a * 29 + 3) & 63;
            s.shift(1, 0, a, b);
            Check.due("shifted(1, 0) after shift by " + a + " and " + b, s.shifted(1, 0), true);
            // The way back leaves b.a over at every point, and no other shift of this table gives its opposite.
            boolean wayBack = Integer.bitCount(a & b) % 2 == 0;
            Check.due("shifted(0, 1) after shift by " + a + " and " + b, s.shifted(0, 1), wayBack);
            s.put(1, 9, 1 - s.value(1, 9));
            Check.due("shifted(1, 0) one point off", s.shifted(1, 0), false);
            Check.due("shifted(0, 1) one point off", s.shifted(0, 1), false);
        }
        TruthSpectrum one = new TruthSpectrum();
        one.put(0, 11, 1);
        one.put(1, 52, 1);
        Check.due("one point to another", one.shifted(0, 1), true);
        Check.due("one point to 0", one.shifted(0, 2), false);
        Check.due("itself", one.shifted(0, 0), true);
        Check.due("0 to 0", one.shifted(2, 3), true);
        one.turnForm(2, 0);
        Check.due("1 everywhere from 0: no a and b do it", one.shifted(2, 3), false);
        one.shift(2, 3, 0, 13);
        Check.due("13.x from 0", one.shifted(2, 3), true);
        one.turnForm(2, 0);
        Check.due("the opposite of 13.x from 0", one.shifted(2, 3), false);
        one.shift(3, 3, 0, 13);
        Check.due("the opposite of 13.x from 13.x", one.shifted(2, 3), true);
        TruthSpectrum forms = bent();
        forms.shift(1, 0, 0, 0);
        forms.turnForm(1, 0);
        Check.due("the opposite of a bent table of degree 2", forms.shifted(1, 0), true);
        forms.turnForm(1, 5);
        Check.due("a bent table with x0x2 turned", forms.shifted(1, 0), false);
        for (int r : NOT_TABLES) {
            Check.due("shifted(0, " + r + ")", forms.shifted(0, r), false);
            Check.due("shifted(" + r + ", 0)", forms.shifted(r, 0), false);
            Check.due("shifted(" + r + ", " + r + ")", forms.shifted(r, r), false);
        }
    }

    private static void wrongTables() {
        TruthSpectrum s = sample();
        for (int t : NOT_TABLES) {
            Check.due("put of table " + t, s.put(t, 1, 1), BAD);
            Check.due("turnForm of table " + t, s.turnForm(t, 0), BAD);
            Check.due("combine of table " + t, s.combine(t, 3, 2, 2), BAD);
            Check.due("shift of table " + t, s.shift(t, 0, 1, 1), BAD);
            Check.due("value of table " + t, s.value(t, 0), BAD);
            Check.due("ones of table " + t, s.ones(t), BAD);
            Check.due("form of table " + t, s.form(t, 0), BAD);
            Check.due("degree of table " + t, s.degree(t), BAD);
            Check.due("spectrum of table " + t, s.spectrum(t, 0), BAD);
            Check.due("distance of table " + t, s.distance(t), BAD);
            Check.due("nearest of table " + t, s.nearest(t), BAD);
            Check.due("immunity of table " + t, s.immunity(t), BAD);
            Check.due("autocorrelation of table " + t, s.autocorrelation(t, 0), BAD);
            Check.due("variables of table " + t, s.variables(t), BAD);
            Check.due("structures of table " + t, s.structures(t), BAD);
            Check.due("shifted of table " + t, s.shifted(t, 0), false);
        }
        isSample("calls with wrong tables", s, -1);
    }

    private static void lastPromisedCall() {
        TruthSpectrum s = new TruthSpectrum();
        for (int call = 1; call < 512; call++) {
            s.turnForm(0, 63);
        }
        Check.due("ones(0) as the 512th call", s.ones(0), 1);
    }
}
