/**
 * Long mixed runs, at most 512 calls on an object, held against the model. The numbers come from a
 * fixed rule, so every run of the test makes the same calls.
 */
public final class ModelTest {
    private static final int RUNS = 400;
    private static final int CALLS = 512;
    private static final int LAST_LOOK = 4 * 64;
    private static final int[] ODD_ONES = {-1, -2, 4, 64, 65, 128, Integer.MIN_VALUE, Integer.MAX_VALUE};
    private static final int[] SIMPLE_POINTS = {0, 1, 2, 4, 8, 16, 32, 3, 12, 48, 63};

    private static long seed = 20261115L;

    public static void main(String[] args) {
        for (int run = 0; run < RUNS && !Check.anyWrong(); run++) {
            walk(run);
        }
        Check.end();
    }

    private static int below(int bound) {
        seed = seed * 6364136223846793005L + 1442695040888963407L;
        return (int) ((seed >>> 33) % bound);
    }

    private static int mostly(int bound) {
        return below(40) == 0 ? ODD_ONES[below(ODD_ONES.length)] : below(bound);
    }

    /** Runs with simple points alone keep the tables even and of low degree, where answers are not all alike. */
    private static int point(int run) {
        int any = mostly(64);
        return run % 2 == 0 && any >= 0 && any < 64 ? SIMPLE_POINTS[below(SIMPLE_POINTS.length)] : any;
    }

    /** Every third run is mixed up to the last promised call; the others keep calls for a look at all points. */
    private static void walk(int run) {
        TruthSpectrum x = new TruthSpectrum();
        Model m = new Model();
        boolean looks = run % 3 != 0;
        int calls = looks ? CALLS - LAST_LOOK : CALLS;
        for (int call = 0; call < calls && !Check.anyWrong(); call++) {
            step(run, call, x, m);
        }
        for (int t = 0; t < 4 && looks; t++) {
            for (int p = 0; p < 64; p++) {
                Check.due("run " + run + ", at its end: value(" + t + ", " + p + ")", x.value(t, p), m.value(t, p));
            }
        }
    }

    private static void step(int run, int call, TruthSpectrum x, Model m) {
        int kind = below(22);
        int t = mostly(4);
        int r = mostly(4);
        int s = mostly(4);
        int a = point(run);
        int b = point(run);
        int op = mostly(4);
        int v = mostly(2);
        String at = "run " + run + ", call " + call + ": ";
        String two = "(" + t + ", " + a + ")";
        String one = "(" + t + ")";
        switch (kind) {
            case 0:
                // A single point makes a table odd; half of the runs with simple points go without.
                if (run % 4 != 0) {
                    Check.due(at + "put(" + t + ", " + a + ", " + v + ")", x.put(t, a, v), m.put(t, a, v));
                }
                break;
            case 1: case 2: case 3: case 4:
                Check.due(at + "turnForm" + two, x.turnForm(t, a), m.turnForm(t, a));
                break;
            case 5: case 6:
                Check.due(at + "combine(" + t + ", " + op + ", " + r + ", " + s + ")", x.combine(t, op, r, s), m.combine(t, op, r, s));
                break;
            case 7: case 8: case 9:
                Check.due(at + "shift(" + t + ", " + r + ", " + a + ", " + b + ")", x.shift(t, r, a, b), m.shift(t, r, a, b));
                break;
            case 10:
                Check.due(at + "value" + two, x.value(t, a), m.value(t, a));
                break;
            case 11:
                Check.due(at + "ones" + one, x.ones(t), m.ones(t));
                break;
            case 12:
                Check.due(at + "form" + two, x.form(t, a), m.form(t, a));
                break;
            case 13:
                Check.due(at + "degree" + one, x.degree(t), m.degree(t));
                break;
            case 14:
                Check.due(at + "spectrum" + two, x.spectrum(t, a), m.spectrum(t, a));
                break;
            case 15:
                Check.due(at + "distance" + one, x.distance(t), m.distance(t));
                break;
            case 16:
                Check.due(at + "nearest" + one, x.nearest(t), m.nearest(t));
                break;
            case 17:
                Check.due(at + "immunity" + one, x.immunity(t), m.immunity(t));
                break;
            case 18:
                Check.due(at + "autocorrelation" + two, x.autocorrelation(t, a), m.autocorrelation(t, a));
                break;
            case 19:
                Check.due(at + "variables" + one, x.variables(t), m.variables(t));
                break;
            case 20:
                Check.due(at + "structures" + one, x.structures(t), m.structures(t));
                break;
            default:
                Check.due(at + "shifted(" + t + ", " + r + ")", x.shifted(t, r), m.shifted(t, r));
                break;
        }
    }
}
