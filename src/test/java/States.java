/** Objects whose tables are known, and what can be read off an object. */
final class States {
    static final int COUNT = 3;

    private States() {
    }

    /** 0: all tables 0 everywhere; 1: all 1 everywhere; 2: four tables of which no two are alike. */
    static TruthSpectrum made(int state) {
        TruthSpectrum s = new TruthSpectrum();
        for (int t = 0; t < 4 && state == 1; t++) {
            s.turnForm(t, 0);
        }
        if (state == 2) {
            s.put(0, 0, 1);
            s.put(0, 62, 1);
            s.turnForm(1, 5);
            s.turnForm(1, 56);
            s.turnForm(2, 63);
            s.turnForm(2, 2);
            s.turnForm(3, 0);
            s.turnForm(3, 7);
            s.turnForm(3, 32);
        }
        return s;
    }

    static TruthSpectrum empty() {
        return made(0);
    }

    static TruthSpectrum full() {
        return made(1);
    }

    static TruthSpectrum mixed() {
        return made(2);
    }

    static String name(int state) {
        String[] names = {"all tables 0", "all tables 1", "mixed tables"};
        return names[state];
    }

    /** The four tables, bit x being point x; 256 calls. */
    static long[] tables(TruthSpectrum s) {
        long[] read = new long[4];
        for (int t = 0; t < 4; t++) {
            read[t] = table(s, t);
        }
        return read;
    }

    /** One table, bit x being point x; 64 calls. */
    static long table(TruthSpectrum s, int t) {
        long read = 0L;
        for (int x = 0; x < 64; x++) {
            int v = s.value(t, x);
            Check.due("value(" + t + ", " + x + ") is 0 or 1", v == 0 || v == 1, true);
            read |= (v & 1L) << x;
        }
        return read;
    }

    static void sameTables(String what, long[] got, long[] want) {
        for (int t = 0; t < 4; t++) {
            Check.due(what + ", table " + t + " as a long", got[t], want[t]);
        }
    }

    /** What every other call answers; fewer than 200 calls. */
    static int[] answers(TruthSpectrum s) {
        int[] points = {0, 1, 22, 32, 62, 63};
        int[] read = new int[4 * (8 + 3 * points.length)];
        int n = 0;
        for (int t = 0; t < 4; t++) {
            read[n++] = s.ones(t);
            read[n++] = s.degree(t);
            read[n++] = s.distance(t);
            read[n++] = s.nearest(t);
            read[n++] = s.immunity(t);
            read[n++] = s.variables(t);
            read[n++] = s.structures(t);
            read[n++] = s.shifted(t, (t + 1) % 4) ? 1 : 0;
            for (int p : points) {
                read[n++] = s.form(t, p);
                read[n++] = s.spectrum(t, p);
                read[n++] = s.autocorrelation(t, p);
            }
        }
        return read;
    }

    static void sameAnswers(String what, int[] got, int[] want) {
        for (int n = 0; n < want.length; n++) {
            Check.due(what + ", answer " + n, got[n], want[n]);
        }
    }
}
