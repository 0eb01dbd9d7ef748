/**
 * The range of every argument of every call: all numbers inside are taken, one below, one above, the
 * least and the greatest int and numbers that would wrap around into the range are refused with the
 * code of the document, and a refused call changes nothing.
 */
public final class RangesTest {
    private static final int BAD = -1000;
    private static final int FALSE = 0;

    private interface Action {
        int on(TruthSpectrum s, int[] p);
    }

    private record Kind(int promise, String name, String arguments, int refusal, Action action, int... greatest) {
        String at(int[] p) {
            StringBuilder text = new StringBuilder(name + "(");
            for (int i = 0; i < p.length; i++) {
                text.append(i == 0 ? "" : ", ").append(p[i]);
            }
            return text.append(")").toString();
        }

        String title(int argument) {
            return "promise " + promise + ", " + name + ", " + arguments.split(" ")[argument];
        }
    }

    private static final Kind[] KINDS = {
        new Kind(2, "put", "t x v", BAD, (s, p) -> s.put(p[0], p[1], p[2]), 3, 63, 1),
        new Kind(3, "turnForm", "t u", BAD, (s, p) -> s.turnForm(p[0], p[1]), 3, 63),
        new Kind(4, "combine", "t op r s", BAD, (s, p) -> s.combine(p[0], p[1], p[2], p[3]), 3, 3, 3, 3),
        new Kind(5, "shift", "t r a b", BAD, (s, p) -> s.shift(p[0], p[1], p[2], p[3]), 3, 3, 63, 63),
        new Kind(6, "value", "t x", BAD, (s, p) -> s.value(p[0], p[1]), 3, 63),
        new Kind(7, "ones", "t", BAD, (s, p) -> s.ones(p[0]), 3),
        new Kind(8, "form", "t u", BAD, (s, p) -> s.form(p[0], p[1]), 3, 63),
        new Kind(9, "degree", "t", BAD, (s, p) -> s.degree(p[0]), 3),
        new Kind(10, "spectrum", "t a", BAD, (s, p) -> s.spectrum(p[0], p[1]), 3, 63),
        new Kind(11, "distance", "t", BAD, (s, p) -> s.distance(p[0]), 3),
        new Kind(12, "nearest", "t", BAD, (s, p) -> s.nearest(p[0]), 3),
        new Kind(13, "immunity", "t", BAD, (s, p) -> s.immunity(p[0]), 3),
        new Kind(14, "autocorrelation", "t a", BAD, (s, p) -> s.autocorrelation(p[0], p[1]), 3, 63),
        new Kind(15, "variables", "t", BAD, (s, p) -> s.variables(p[0]), 3),
        new Kind(16, "structures", "t", BAD, (s, p) -> s.structures(p[0]), 3),
        new Kind(17, "shifted", "t r", FALSE, (s, p) -> s.shifted(p[0], p[1]) ? 1 : 0, 3, 3),
    };

    private static final long[][] TABLES = new long[States.COUNT][];
    private static final int[][] ANSWERS = new int[States.COUNT][];

    public static void main(String[] args) {
        for (int state = 0; state < States.COUNT; state++) {
            TABLES[state] = States.tables(States.made(state));
            ANSWERS[state] = States.answers(States.made(state));
        }
        for (Kind kind : KINDS) {
            for (int i = 0; i < kind.greatest.length; i++) {
                argument(kind, i);
            }
            String title = "promise " + kind.promise + ", " + kind.name;
            Check.test(title + ": any mixture of wrong and right arguments", () -> mixtures(kind));
            Check.test(title + ": all calls answer as before a refused one", () -> answersStay(kind));
        }
        Check.end();
    }

    private static void argument(Kind kind, int i) {
        int greatest = kind.greatest[i];
        String title = kind.title(i);
        Check.test(title + " one below its range", () -> refused(kind, i, -1));
        Check.test(title + " one above its range", () -> refused(kind, i, greatest + 1));
        Check.test(title + " the least int", () -> refused(kind, i, Integer.MIN_VALUE));
        Check.test(title + " the greatest int", () -> refused(kind, i, Integer.MAX_VALUE));
        Check.test(title + " that a mask or a cast would take into its range", () -> wrapped(kind, i));
        Check.test(title + " anywhere in its range", () -> taken(kind, i));
    }

    /** The n-th choice of arguments that are each at one end of their range. */
    private static int[] corner(Kind kind, int n) {
        int[] p = new int[kind.greatest.length];
        for (int i = 0; i < p.length; i++) {
            p[i] = (n >> i & 1) * kind.greatest[i];
        }
        return p;
    }

    private static int corners(Kind kind) {
        return 1 << kind.greatest.length;
    }

    private static void refused(Kind kind, int i, int wrong) {
        for (int n = 0; n < corners(kind); n++) {
            int[] p = corner(kind, n);
            p[i] = wrong;
            for (int state = 0; state < States.COUNT; state++) {
                isRefused(kind, p, state);
            }
        }
    }

    private static void isRefused(Kind kind, int[] p, int state) {
        TruthSpectrum s = States.made(state);
        String what = kind.at(p) + " with " + States.name(state);
        Check.due(what, kind.action.on(s, p), kind.refusal);
        States.sameTables("after " + what, States.tables(s), TABLES[state]);
    }

    private static void wrapped(Kind kind, int i) {
        int size = kind.greatest[i] + 1;
        int[] wraps = {size + 1, 2 * size, 2 * size - 1, -size, -size + 1, 64, 127, 256, 257, 1 << 16, (1 << 16) + 1,
            1 << 24, 1 << 30, Integer.MIN_VALUE + 1, Integer.MIN_VALUE + size - 1, Integer.MAX_VALUE - size + 1};
        for (int wrong : wraps) {
            refused(kind, i, wrong);
        }
    }

    private static void taken(Kind kind, int i) {
        for (int n = 0; n < corners(kind); n++) {
            int[] p = corner(kind, n);
            for (p[i] = 0; p[i] <= kind.greatest[i]; p[i]++) {
                // On a new object no right call answers like a refused one: there, every shifted is true.
                int answer = kind.action.on(new TruthSpectrum(), p);
                Check.due(kind.at(p) + " on a new object answers " + kind.refusal, answer == kind.refusal, false);
            }
        }
    }

    private static void mixtures(Kind kind) {
        int count = kind.greatest.length;
        int[] choice = new int[count];
        int all = (int) Math.pow(6, count);
        for (int n = 0; n < all; n++) {
            boolean right = true;
            for (int i = 0, rest = n; i < count; i++, rest /= 6) {
                int top = kind.greatest[i];
                int[] choices = {Integer.MIN_VALUE, -1, 0, top, top + 1, Integer.MAX_VALUE};
                choice[i] = choices[rest % 6];
                right &= choice[i] >= 0 && choice[i] <= top;
            }
            if (right) {
                int answer = kind.action.on(new TruthSpectrum(), choice);
                Check.due(kind.at(choice) + " answers " + kind.refusal, answer == kind.refusal, false);
            } else {
                isRefused(kind, choice, n % States.COUNT);
            }
        }
    }

    private static void answersStay(Kind kind) {
        for (int i = 0; i < kind.greatest.length; i++) {
            for (int wrong : new int[] {Integer.MIN_VALUE, -1, kind.greatest[i] + 1, Integer.MAX_VALUE}) {
                for (int state = 0; state < States.COUNT; state++) {
                    TruthSpectrum s = States.made(state);
                    int[] p = corner(kind, corners(kind) - 1);
                    p[i] = wrong;
                    Check.due(kind.at(p), kind.action.on(s, p), kind.refusal);
                    States.sameAnswers("after " + kind.at(p), States.answers(s), ANSWERS[state]);
                }
            }
        }
    }
}
