/** The document's words taken one by one, with no thought of speed: what TruthSpectrum must answer. */
final class Model {
    private static final int BAD = -1000;
    private final int[][] tables = new int[4][64];

    private static boolean below(int n, int bound) {
        return n >= 0 && n < bound;
    }

    private static int dot(int a, int x) {
        return Integer.bitCount(a & x) % 2;
    }

    private static int sum(int[] f) {
        int n = 0;
        for (int v : f) {
            n += v;
        }
        return n;
    }

    private static int[] tableOfForm(int[] form) {
        int[] f = new int[64];
        for (int x = 0; x < 64; x++) {
            for (int u = 0; u < 64; u++) {
                f[x] ^= (u & ~x) == 0 ? form[u] : 0;
            }
        }
        return f;
    }

    /** Point by point upward: the form at u is what the table at u still lacks. */
    private static int[] formOf(int[] f) {
        int[] form = new int[64];
        for (int u = 0; u < 64; u++) {
            form[u] = f[u] ^ tableOfForm(form)[u];
        }
        return form;
    }

    private static int[] shiftOf(int[] f, int a, int b) {
        int[] g = new int[64];
        for (int x = 0; x < 64; x++) {
            g[x] = f[x ^ a] ^ dot(b, x);
        }
        return g;
    }

    private static int spectrumOf(int[] f, int a) {
        int n = 0;
        for (int x = 0; x < 64; x++) {
            n += f[x] == dot(a, x) ? 1 : -1;
        }
        return n;
    }

    private static int changes(int[] f, int a, int opposite) {
        int n = 0;
        for (int x = 0; x < 64; x++) {
            n += f[x] != (dot(a, x) ^ opposite) ? 1 : 0;
        }
        return n;
    }

    private static int changes(int[] f, int a) {
        return Math.min(changes(f, a, 0), changes(f, a, 1));
    }

    int put(int t, int x, int v) {
        if (!below(t, 4) || !below(x, 64) || !below(v, 2)) {
            return BAD;
        }
        int was = tables[t][x];
        tables[t][x] = v;
        return was;
    }

    int turnForm(int t, int u) {
        if (!below(t, 4) || !below(u, 64)) {
            return BAD;
        }
        int[] form = formOf(tables[t]);
        form[u] = 1 - form[u];
        tables[t] = tableOfForm(form);
        return sum(tables[t]);
    }

    int combine(int t, int op, int r, int s) {
        if (!below(t, 4) || !below(op, 4) || !below(r, 4) || !below(s, 4)) {
            return BAD;
        }
        int[] f = new int[64];
        for (int x = 0; x < 64; x++) {
            int p = tables[r][x];
            int q = tables[s][x];
            int[] byOp = {p ^ q, p * q, Math.max(p, q), q == 1 ? p : 1 - p};
            f[x] = byOp[op];
        }
        tables[t] = f;
        return sum(f);
    }

    int shift(int t, int r, int a, int b) {
        if (!below(t, 4) || !below(r, 4) || !below(a, 64) || !below(b, 64)) {
            return BAD;
        }
        tables[t] = shiftOf(tables[r], a, b);
        return sum(tables[t]);
    }

    int value(int t, int x) {
        return below(t, 4) && below(x, 64) ? tables[t][x] : BAD;
    }

    int ones(int t) {
        return below(t, 4) ? sum(tables[t]) : BAD;
    }

    int form(int t, int u) {
        return below(t, 4) && below(u, 64) ? formOf(tables[t])[u] : BAD;
    }

    int degree(int t) {
        if (!below(t, 4)) {
            return BAD;
        }
        int[] form = formOf(tables[t]);
        int greatest = 0;
        for (int u = 0; u < 64; u++) {
            greatest = Math.max(greatest, form[u] * Integer.bitCount(u));
        }
        return greatest;
    }

    int spectrum(int t, int a) {
        return below(t, 4) && below(a, 64) ? spectrumOf(tables[t], a) : BAD;
    }

    int distance(int t) {
        if (!below(t, 4)) {
            return BAD;
        }
        int least = 64;
        for (int a = 0; a < 64; a++) {
            least = Math.min(least, changes(tables[t], a));
        }
        return least;
    }

    int nearest(int t) {
        int least = distance(t);
        for (int a = 0; a < 64 && least != BAD; a++) {
            if (changes(tables[t], a) == least) {
                return a;
            }
        }
        return BAD;
    }

    private boolean immune(int t, int m) {
        for (int a = 0; a < 64; a++) {
            int size = Integer.bitCount(a);
            if (size >= 1 && size <= m && spectrumOf(tables[t], a) != 0) {
                return false;
            }
        }
        return true;
    }

    int immunity(int t) {
        if (!below(t, 4)) {
            return BAD;
        }
        int m = 6;
        while (!immune(t, m)) {
            m--;
        }
        return m;
    }

    private int same(int t, int a) {
        int n = 0;
        for (int x = 0; x < 64; x++) {
            n += tables[t][x] == tables[t][x ^ a] ? 1 : 0;
        }
        return n;
    }

    int autocorrelation(int t, int a) {
        return below(t, 4) && below(a, 64) ? same(t, a) - (64 - same(t, a)) : BAD;
    }

    int variables(int t) {
        if (!below(t, 4)) {
            return BAD;
        }
        int set = 0;
        for (int i = 0; i < 6; i++) {
            boolean depends = false;
            for (int x = 0; x < 64; x++) {
                depends |= tables[t][x] != tables[t][x ^ (1 << i)];
            }
            set += depends ? 1 << i : 0;
        }
        return set;
    }

    int structures(int t) {
        if (!below(t, 4)) {
            return BAD;
        }
        int n = 0;
        for (int a = 0; a < 64; a++) {
            n += same(t, a) == 64 || same(t, a) == 0 ? 1 : 0;
        }
        return n;
    }

    boolean shifted(int t, int r) {
        if (!below(t, 4) || !below(r, 4)) {
            return false;
        }
        for (int a = 0; a < 64; a++) {
            for (int b = 0; b < 64; b++) {
                if (java.util.Arrays.equals(tables[t], shiftOf(tables[r], a, b))) {
                    return true;
                }
            }
        }
        return false;
    }
}
