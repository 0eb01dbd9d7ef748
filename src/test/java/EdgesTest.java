/**
 * Each edge that the document names or that its words have, promise by promise, as a test of its own
 * with answers worked out by hand: tables that are 0 or 1 everywhere, the least and the greatest
 * answers, the first and the last point, ties, a table made of itself, and the last promised call.
 * Arguments out of range are in RangesTest.
 */
public final class EdgesTest {
    private static final int BAD = -1000;
    private static final long FULL = -1L;
    private static final int PROMISED_CALLS = 512;

    public static void main(String[] args) {
        terms();
        newObject();
        put();
        turnForm();
        combine();
        shift();
        value();
        ones();
        form();
        degree();
        spectrum();
        distance();
        nearest();
        immunity();
        autocorrelation();
        variables();
        structures();
        shifted();
        lastCalls();
        Check.end();
    }

    private static int parity(int n) {
        return Integer.bitCount(n) % 2;
    }

    private static int sign(int n) {
        return parity(n) == 0 ? 1 : -1;
    }

    /** a.x as a table, bit x being point x. */
    private static long simple(int a) {
        long f = 0L;
        for (int x = 0; x < 64; x++) {
            f |= (long) parity(a & x) << x;
        }
        return f;
    }

    private static long point(int x) {
        return 1L << x;
    }

    /** An object whose table t is f, put point by point: at most 64 calls. */
    private static TruthSpectrum holding(int t, long f) {
        TruthSpectrum s = new TruthSpectrum();
        hold(s, t, f);
        return s;
    }

    private static void hold(TruthSpectrum s, int t, long f) {
        for (int x = 0; x < 64; x++) {
            if ((f >>> x & 1L) == 1L) {
                s.put(t, x, 1);
            }
        }
    }

    private static void isTable(String what, TruthSpectrum s, int t, long want) {
        Check.due(what + ", table " + t + " as a long", States.table(s, t), want);
    }

    /** x0x1 ^ x2x3 ^ x4x5: as far from the simple tables as can be. */
    private static long bent() {
        long f = 0L;
        for (int x = 0; x < 64; x++) {
            int v = (x & x >> 1 & 1) ^ (x >> 2 & x >> 3 & 1) ^ (x >> 4 & x >> 5 & 1);
            f |= (long) v << x;
        }
        return f;
    }

    private static void terms() {
        Check.test("terms: BAD_ARG is -1000", () -> Check.due("BAD_ARG", TruthSpectrum.BAD_ARG, BAD));
        Check.test("terms: a.x is even, so 0, when no digit is 1 in both", () -> {
            TruthSpectrum s = new TruthSpectrum();
            s.shift(0, 0, 0, 42);
            Check.due("42.0", s.value(0, 0), 0);
            Check.due("42.21", s.value(0, 21), 0);
            s.shift(1, 1, 0, 0);
            isTable("0.x", s, 1, 0L);
        });
        Check.test("terms: a.x is 0 for two, four and six digits, 1 for one, three and five", () -> {
            TruthSpectrum s = new TruthSpectrum();
            s.shift(0, 0, 0, 63);
            for (int x = 0; x < 64; x++) {
                Check.due("63." + x, s.value(0, x), parity(x));
            }
        });
    }

    private static void newObject() {
        Check.test("promise 1: all tables are 0 at every point", () -> {
            TruthSpectrum s = new TruthSpectrum();
            for (int t = 0; t < 4; t++) {
                isTable("new", s, t, 0L);
            }
        });
        Check.test("promise 1: what the calls answer of a table that is 0 everywhere", () -> {
            for (int t = 0; t < 4; t++) {
                answersOfConstant(new TruthSpectrum(), t, 0);
            }
        });
        Check.test("promise 1: a new object has nothing of an older one, nor the other way", () -> {
            TruthSpectrum old = States.full();
            TruthSpectrum young = new TruthSpectrum();
            for (int t = 0; t < 4; t++) {
                isTable("young", young, t, 0L);
                isTable("old", old, t, FULL);
            }
            young.put(0, 63, 1);
            old.put(0, 0, 0);
            Check.due("old", old.ones(0), 63);
            Check.due("young", young.ones(0), 1);
        });
    }

    private static void answersOfConstant(TruthSpectrum s, int t, int v) {
        Check.due("ones", s.ones(t), 64 * v);
        Check.due("degree", s.degree(t), 0);
        Check.due("distance", s.distance(t), 0);
        Check.due("nearest", s.nearest(t), 0);
        Check.due("immunity", s.immunity(t), 6);
        Check.due("variables", s.variables(t), 0);
        Check.due("structures", s.structures(t), 64);
        Check.due("shifted from itself", s.shifted(t, t), true);
        for (int p = 0; p < 64; p++) {
            Check.due("value at " + p, s.value(t, p), v);
            Check.due("form at " + p, s.form(t, p), p == 0 ? v : 0);
            Check.due("spectrum at " + p, s.spectrum(t, p), p == 0 ? 64 - 128 * v : 0);
            Check.due("autocorrelation at " + p, s.autocorrelation(t, p), 64);
        }
    }

    private static void put() {
        Check.test("promise 2: 0 or 1 put at each point of a table that is 0 everywhere", () -> putAtEach(0));
        Check.test("promise 2: 0 or 1 put at each point of a table that is 1 everywhere", () -> putAtEach(1));
        Check.test("promise 2: a table filled from empty to full", () -> fill(1));
        Check.test("promise 2: a table emptied from full", () -> fill(0));
        Check.test("promise 2: a put stays while other tables and points change", () -> {
            TruthSpectrum s = new TruthSpectrum();
            s.put(1, 0, 1);
            s.put(1, 63, 1);
            s.put(1, 1, 1);
            s.turnForm(0, 0);
            s.combine(2, 3, 3, 3);
            s.shift(3, 0, 63, 63);
            s.put(1, 1, 0);
            isTable("table 1", s, 1, point(0) | point(63));
            Check.due("put(1, 63, 0) answers what it was", s.put(1, 63, 0), 1);
        });
    }

    private static void putAtEach(int before) {
        long all = before == 0 ? 0L : FULL;
        for (int x = 0; x < 64; x++) {
            int t = x % 4;
            TruthSpectrum s = before == 0 ? States.empty() : States.full();
            String at = "at " + x + " of table " + t + ": ";
            Check.due(at + "what is there already", s.put(t, x, before), before);
            Check.due(at + "still " + 64 * before + " ones", s.ones(t), 64 * before);
            Check.due(at + "the other", s.put(t, x, 1 - before), before);
            Check.due(at + "the other again", s.put(t, x, 1 - before), 1 - before);
            for (int k = 0; k < 4; k++) {
                isTable(at + "changed", s, k, k == t ? all ^ point(x) : all);
            }
            Check.due(at + "back", s.put(t, x, before), 1 - before);
            isTable(at + "back", s, t, all);
        }
    }

    private static void fill(int v) {
        for (int t = 0; t < 4; t++) {
            TruthSpectrum s = v == 1 ? States.empty() : States.full();
            for (int x = 0; x < 64; x++) {
                Check.due("put(" + t + ", " + x + ", " + v + ")", s.put(t, x, v), 1 - v);
                Check.due("ones", s.ones(t), v == 1 ? x + 1 : 63 - x);
            }
            answersOfConstant(s, t, v);
        }
    }

    private static void turnForm() {
        Check.test("promise 3: turned at 0, a table 0 everywhere is 1 everywhere", () -> {
            TruthSpectrum s = States.empty();
            Check.due("turnForm(0, 0)", s.turnForm(0, 0), 64);
            isTable("turned", s, 0, FULL);
        });
        Check.test("promise 3: turned at 0, a table 1 everywhere is 0 everywhere", () -> {
            TruthSpectrum s = States.full();
            Check.due("turnForm(3, 0)", s.turnForm(3, 0), 0);
            isTable("turned", s, 3, 0L);
        });
        Check.test("promise 3: turned at 63, a table 0 everywhere is 1 at 63 only", () -> {
            TruthSpectrum s = States.empty();
            Check.due("turnForm(3, 63)", s.turnForm(3, 63), 1);
            isTable("turned", s, 3, point(63));
        });
        Check.test("promise 3: turned at 63, a table 1 everywhere is 0 at 63 only", () -> {
            TruthSpectrum s = States.full();
            Check.due("turnForm(0, 63)", s.turnForm(0, 63), 63);
            isTable("turned", s, 0, ~point(63));
        });
        Check.test("promise 3: 0 becomes 1, from a form that is 0 everywhere", () -> {
            for (int u = 0; u < 64; u++) {
                TruthSpectrum s = new TruthSpectrum();
                s.turnForm(u % 4, u);
                formIs(States.table(s, u % 4), point(u));
            }
        });
        Check.test("promise 3: 1 becomes 0, from a form that is 1 everywhere", () -> {
            for (int u = 0; u < 64; u++) {
                TruthSpectrum s = holding(u % 4, point(0));
                s.turnForm(u % 4, u);
                formIs(States.table(s, u % 4), ~point(u));
            }
        });
        Check.test("promise 3: the form is turned at that point and at no other", () -> turnAtEach(false));
        Check.test("promise 3: turned twice, the form and the table are what they were", () -> turnAtEach(true));
        Check.test("promise 3: the answer is the number of ones after the turn", () -> {
            TruthSpectrum s = holding(1, point(63));
            Check.due("turnForm(1, 32)", s.turnForm(1, 32), 31);
            Check.due("turnForm(1, 63)", s.turnForm(1, 63), 32);
            Check.due("turnForm(1, 32)", s.turnForm(1, 32), 0);
        });
        Check.test("promise 3: other tables stay", () -> {
            long[] before = States.tables(States.mixed());
            for (int t = 0; t < 4; t++) {
                TruthSpectrum s = States.mixed();
                s.turnForm(t, 0);
                long[] due = before.clone();
                due[t] = ~before[t];
                States.sameTables("turnForm(" + t + ", 0)", States.tables(s), due);
            }
        });
    }

    private static void turnAtEach(boolean twice) {
        for (int u = 0; u < 64; u++) {
            for (int t = 0; t < 4; t++) {
                TruthSpectrum before = States.mixed();
                TruthSpectrum s = States.mixed();
                s.turnForm(t, u);
                if (twice) {
                    Check.due("ones after two turns at " + u, s.turnForm(t, u), before.ones(t));
                    isTable("two turns at " + u, s, t, States.table(before, t));
                }
                for (int p = 0; p < 64; p++) {
                    int due = before.form(t, p) ^ (p == u && !twice ? 1 : 0);
                    Check.due("form(" + t + ", " + p + ") after turns at " + u, s.form(t, p), due);
                }
            }
        }
    }

    private static final String[] OPS = {"exclusive or", "and", "or", "r where s is 1, else the opposite"};

    private static long combined(int op, long r, long s) {
        long[] by = {r ^ s, r & s, r | s, (r & s) | (~r & ~s)};
        return by[op];
    }

    private static void combine() {
        for (int op = 0; op < 4; op++) {
            int o = op;
            String title = "promise 4: " + OPS[op] + " of ";
            Check.test(title + "tables that are 0 or 1 everywhere", () -> combineConstants(o));
            Check.test(title + "t and s, into t", () -> combineOnto(o, 0, 0, 1));
            Check.test(title + "r and t, into t", () -> combineOnto(o, 1, 0, 1));
            Check.test(title + "t and t, into t", () -> combineOnto(o, 2, 2, 2));
            Check.test(title + "a table and itself, into another", () -> combineOnto(o, 3, 2, 2));
            Check.test(title + "any two tables, into any; the others stay", () -> {
                for (int n = 0; n < 64; n++) {
                    combineOnto(o, n & 3, n >> 2 & 3, n >> 4);
                }
            });
        }
    }

    private static void combineConstants(int op) {
        int[][] ones = {{0, 64, 64, 0}, {0, 0, 0, 64}, {0, 64, 64, 64}, {64, 0, 0, 64}};
        for (int n = 0; n < 4; n++) {
            TruthSpectrum s = new TruthSpectrum();
            int r = n >> 1;
            int q = n & 1;
            if (r == 1) {
                s.turnForm(1, 0);
            }
            if (q == 1) {
                s.turnForm(2, 0);
            }
            int due = ones[op][n];
            Check.due(r + " and " + q, s.combine(3, op, 1, 2), due);
            isTable(r + " and " + q, s, 3, due == 0 ? 0L : FULL);
        }
    }

    private static void combineOnto(int op, int t, int r, int q) {
        TruthSpectrum s = States.mixed();
        long[] due = States.tables(States.mixed());
        due[t] = combined(op, due[r], due[q]);
        String call = "combine(" + t + ", " + op + ", " + r + ", " + q + ")";
        Check.due(call, s.combine(t, op, r, q), Long.bitCount(due[t]));
        States.sameTables(call, States.tables(s), due);
    }

    private static void shift() {
        Check.test("promise 5: by 0 and 0 it is a copy", () -> {
            TruthSpectrum s = States.mixed();
            long r = States.table(s, 1);
            Check.due("shift(2, 1, 0, 0)", s.shift(2, 1, 0, 0), Long.bitCount(r));
            isTable("the copy", s, 2, r);
            isTable("the original", s, 1, r);
            Check.due("shift(1, 1, 0, 0)", s.shift(1, 1, 0, 0), Long.bitCount(r));
            isTable("onto itself", s, 1, r);
        });
        Check.test("promise 5: by a = 63 the table is turned end for end", () -> {
            TruthSpectrum s = holding(0, 7L | point(40));
            Check.due("shift(3, 0, 63, 0)", s.shift(3, 0, 63, 0), 4);
            isTable("turned", s, 3, Long.reverse(7L | point(40)));
        });
        Check.test("promise 5: x ^ a is not a sum that carries or wraps around", () -> {
            shiftedPoint(63, 1, 62);
            shiftedPoint(0, 63, 63);
            shiftedPoint(63, 63, 0);
            shiftedPoint(32, 33, 1);
            shiftedPoint(31, 1, 30);
            shiftedPoint(31, 32, 63);
        });
        Check.test("promise 5: b.x at x, not at x ^ a", () -> {
            TruthSpectrum s = new TruthSpectrum();
            Check.due("shift(0, 1, 1, 1)", s.shift(0, 1, 1, 1), 32);
            isTable("1.x", s, 0, simple(1));
            Check.due("shift(0, 1, 63, 32)", s.shift(0, 1, 63, 32), 32);
            isTable("32.x", s, 0, simple(32));
        });
        Check.test("promise 5: a table 0 everywhere, by every a and b", () -> shiftConstant(0));
        Check.test("promise 5: a table 1 everywhere, by every a and b", () -> shiftConstant(1));
        Check.test("promise 5: a table onto itself, by every a and b", () -> {
            for (int n = 0; n < 64 * 64; n++) {
                shiftOnto(n % 4, n % 4, n >> 6, n & 63);
            }
        });
        Check.test("promise 5: a table onto another, by every a and b; all but the other stay", () -> {
            for (int n = 0; n < 64 * 64; n++) {
                int t = n % 4;
                shiftOnto(t, (t + 1 + n / 4 % 3) % 4, n >> 6, n & 63);
            }
        });
    }

    private static void shiftedPoint(int from, int a, int to) {
        TruthSpectrum s = holding(1, point(from));
        Check.due("point " + from + " by " + a, s.shift(0, 1, a, 0), 1);
        isTable("point " + from + " by " + a, s, 0, point(to));
    }

    private static void shiftConstant(int v) {
        for (int n = 0; n < 64 * 64; n++) {
            int a = n >> 6;
            int b = n & 63;
            TruthSpectrum s = v == 0 ? States.empty() : States.full();
            Check.due("by " + a + " and " + b, s.shift(2, 1, a, b), b != 0 ? 32 : 64 * v);
            isTable("by " + a + " and " + b, s, 2, v == 0 ? simple(b) : ~simple(b));
        }
    }

    private static void shiftOnto(int t, int r, int a, int b) {
        TruthSpectrum s = States.mixed();
        long[] due = States.tables(States.mixed());
        long f = 0L;
        for (int x = 0; x < 64; x++) {
            f |= ((due[r] >>> (x ^ a) & 1L) ^ parity(b & x)) << x;
        }
        due[t] = f;
        String call = "shift(" + t + ", " + r + ", " + a + ", " + b + ")";
        Check.due(call, s.shift(t, r, a, b), Long.bitCount(f));
        States.sameTables(call, States.tables(s), due);
    }

    private static void value() {
        Check.test("promise 6: at every point of a table 0 everywhere", () -> valueAtEach(0));
        Check.test("promise 6: at every point of a table 1 everywhere", () -> valueAtEach(1));
        Check.test("promise 6: at point 0 and at point 63, one of them 1", () -> {
            TruthSpectrum s = new TruthSpectrum();
            s.put(0, 0, 1);
            s.put(3, 63, 1);
            Check.due("value(0, 0)", s.value(0, 0), 1);
            Check.due("value(0, 63)", s.value(0, 63), 0);
            Check.due("value(3, 0)", s.value(3, 0), 0);
            Check.due("value(3, 63)", s.value(3, 63), 1);
        });
        Check.test("promise 6: it changes nothing", () -> staysAfter(s -> s.value(0, 0) + s.value(3, 63)));
    }

    private static void valueAtEach(int v) {
        TruthSpectrum s = v == 0 ? States.empty() : States.full();
        for (int n = 0; n < 256; n++) {
            Check.due("value(" + n / 64 + ", " + n % 64 + ")", s.value(n / 64, n % 64), v);
        }
    }

    private interface Question {
        long of(TruthSpectrum s);
    }

    /** Calls that only answer leave all tables as they are, and answer the same again. */
    private static void staysAfter(Question question) {
        for (int state = 0; state < States.COUNT; state++) {
            TruthSpectrum s = States.made(state);
            long[] before = States.tables(States.made(state));
            long first = question.of(s);
            States.sameTables(States.name(state), States.tables(s), before);
            Check.due("asked again with " + States.name(state), question.of(s), first);
        }
    }

    private static void ones() {
        Check.test("promise 7: 0 of a table 0 everywhere", () -> Check.due("ones(3)", States.empty().ones(3), 0));
        Check.test("promise 7: 64 of a table 1 everywhere", () -> Check.due("ones(3)", States.full().ones(3), 64));
        Check.test("promise 7: 1 for a single point, 63 for all but one", () -> {
            for (int x = 0; x < 64; x++) {
                Check.due("point " + x, holding(x % 4, point(x)).ones(x % 4), 1);
                Check.due("all but " + x, holding(x % 4, ~point(x)).ones(x % 4), 63);
            }
        });
        Check.test("promise 7: it changes nothing", () -> staysAfter(s -> s.ones(0) + 100 * s.ones(3)));
    }

    private static void form() {
        Check.test("promise 8: 0 everywhere for a table 0 everywhere", () -> formIs(0L, 0L));
        Check.test("promise 8: 1 at 0 only for a table 1 everywhere", () -> formIs(FULL, point(0)));
        Check.test("promise 8: 1 everywhere for a table 1 at 0 only", () -> formIs(point(0), FULL));
        Check.test("promise 8: 1 at 63 only for a table 1 at 63 only", () -> formIs(point(63), point(63)));
        Check.test("promise 8: 1 at 0 and 63 only for a table 1 everywhere but at 63", () -> formIs(~point(63), point(0) | point(63)));
        Check.test("promise 8: 1 at all but 0 for a table 1 everywhere but at 0", () -> formIs(~point(0), ~point(0)));
        Check.test("promise 8: a table 1 at one point has its form 1 at the points that hold it", () -> {
            for (int x = 0; x < 64; x++) {
                long holds = 0L;
                for (int u = 0; u < 64; u++) {
                    holds |= (u & x) == x ? point(u) : 0L;
                }
                formIs(point(x), holds);
            }
        });
        Check.test("promise 8: it changes nothing", () -> staysAfter(s -> s.form(0, 0) + 2 * s.form(3, 63)));
    }

    private static void formIs(long table, long form) {
        for (int t = 0; t < 4; t++) {
            TruthSpectrum s = holding(t, table);
            for (int u = 0; u < 64; u++) {
                Check.due("form(" + t + ", " + u + ") of " + table, s.form(t, u), form >>> u & 1L);
            }
        }
    }

    private static void degree() {
        Check.test("promise 9: 0 if the form is 1 nowhere", () -> Check.due("degree(0)", States.empty().degree(0), 0));
        Check.test("promise 9: 0 if the form is 1 at 0 only", () -> Check.due("degree(3)", States.full().degree(3), 0));
        Check.test("promise 9: 6, the greatest, if the form is 1 at 63", () -> {
            TruthSpectrum s = States.full();
            s.turnForm(3, 63);
            Check.due("degree(3)", s.degree(3), 6);
            s.turnForm(3, 63);
            Check.due("degree(3), turned back", s.degree(3), 0);
        });
        Check.test("promise 9: 1 for every simple table but 0 everywhere, and for its opposite", () -> {
            for (int a = 1; a < 64; a++) {
                Check.due("degree of " + a + ".x", holding(1, simple(a)).degree(1), 1);
                Check.due("degree of its opposite", holding(1, ~simple(a)).degree(1), 1);
            }
        });
        Check.test("promise 9: the greatest size counts, not the greatest point", () -> {
            TruthSpectrum s = new TruthSpectrum();
            s.turnForm(0, 31);
            s.turnForm(0, 32);
            Check.due("form at 31 and 32", s.degree(0), 5);
            s.turnForm(1, 1);
            s.turnForm(1, 6);
            s.turnForm(1, 8);
            Check.due("form at 1, 6 and 8", s.degree(1), 2);
        });
        Check.test("promise 9: every size", () -> {
            for (int u = 0; u < 64; u++) {
                TruthSpectrum s = new TruthSpectrum();
                s.turnForm(2, u);
                Check.due("form at " + u, s.degree(2), Integer.bitCount(u));
            }
        });
        Check.test("promise 9: it changes nothing", () -> staysAfter(s -> s.degree(0) + 10 * s.degree(3)));
    }

    private static void spectrum() {
        Check.test("promise 10: 64 at 0 and 0 elsewhere for a table 0 everywhere", () -> spectrumOfSimple(0, 0));
        Check.test("promise 10: -64 at 0 and 0 elsewhere for a table 1 everywhere", () -> spectrumOfSimple(0, 1));
        Check.test("promise 10: 64 at 63 for 63.x", () -> spectrumOfSimple(63, 0));
        Check.test("promise 10: -64 at 63 for the opposite of 63.x", () -> spectrumOfSimple(63, 1));
        Check.test("promise 10: 64 or -64 at a for every a.x or its opposite", () -> {
            for (int a = 0; a < 64; a++) {
                spectrumOfSimple(a, a % 2);
            }
        });
        Check.test("promise 10: one point off 0 everywhere, the point 0 or 63", () -> {
            TruthSpectrum s = new TruthSpectrum();
            s.put(0, 0, 1);
            s.put(3, 63, 1);
            for (int a = 0; a < 64; a++) {
                Check.due("1 at 0, at " + a, s.spectrum(0, a), a == 0 ? 62 : -2);
                Check.due("1 at 63, at " + a, s.spectrum(3, a), (a == 0 ? 64 : 0) - 2 * sign(a));
            }
        });
        Check.test("promise 10: 8 or -8 everywhere for a bent table", () -> {
            TruthSpectrum s = holding(1, bent());
            for (int a = 0; a < 64; a++) {
                // Its spectrum is the same table again, with the digits of each pair changed round.
                Check.due("at " + a, s.spectrum(1, a), s.value(1, a) == 0 ? 8 : -8);
            }
        });
        Check.test("promise 10: it changes nothing", () -> staysAfter(s -> s.spectrum(0, 0) + 1000 * s.spectrum(3, 63)));
    }

    private static void spectrumOfSimple(int a, int opposite) {
        for (int t = 0; t < 4; t++) {
            TruthSpectrum s = holding(t, opposite == 0 ? simple(a) : ~simple(a));
            for (int p = 0; p < 64; p++) {
                Check.due("spectrum(" + t + ", " + p + ")", s.spectrum(t, p), p != a ? 0 : opposite == 0 ? 64 : -64);
            }
        }
    }

    /** The distance and the nearest point of a table, in each of the four places. */
    private static void lies(String what, long table, int distance, int nearest) {
        for (int t = 0; t < 4; t++) {
            TruthSpectrum s = holding(t, table);
            Check.due("distance of " + what, s.distance(t), distance);
            Check.due("nearest of " + what, s.nearest(t), nearest);
        }
    }

    private static void distance() {
        Check.test("promise 11: 0 for a table 0 everywhere", () -> lies("0", 0L, 0, 0));
        Check.test("promise 11: 0 for a table 1 everywhere", () -> lies("1", FULL, 0, 0));
        Check.test("promise 11: 0 for every a.x", () -> {
            for (int a = 0; a < 64; a++) {
                lies(a + ".x", simple(a), 0, a);
            }
        });
        Check.test("promise 11: 0 for the opposite of every a.x", () -> {
            for (int a = 0; a < 64; a++) {
                lies("the opposite of " + a + ".x", ~simple(a), 0, a);
            }
        });
        Check.test("promise 11: 1 for one point off, the first or the last", () -> {
            for (int a = 0; a < 64; a++) {
                lies(a + ".x but at 0", simple(a) ^ point(0), 1, a);
                lies(a + ".x but at 63", simple(a) ^ point(63), 1, a);
                lies("the opposite of " + a + ".x but at 0", ~simple(a) ^ point(0), 1, a);
                lies("the opposite of " + a + ".x but at 63", ~simple(a) ^ point(63), 1, a);
            }
        });
        Check.test("promise 11: 28, the greatest, for a bent table and its opposite", () -> {
            lies("a bent table", bent(), 28, 0);
            lies("the opposite of a bent table", ~bent(), 28, 0);
        });
        Check.test("promise 11: it changes nothing", () -> staysAfter(s -> s.distance(0) + 100 * s.distance(3)));
    }

    private static void nearest() {
        Check.test("promise 12: 0, the least, for 0 everywhere, 1 everywhere and one point off them", () -> {
            lies("0", 0L, 0, 0);
            lies("1", FULL, 0, 0);
            lies("1 at 63", point(63), 1, 0);
            lies("0 at 63", ~point(63), 1, 0);
        });
        Check.test("promise 12: 63, the greatest, for 63.x and its opposite", () -> {
            lies("63.x", simple(63), 0, 63);
            lies("the opposite of 63.x", ~simple(63), 0, 63);
        });
        Check.test("promise 12: the least of all points, if all are equally near", () -> {
            lies("a bent table", bent(), 28, 0);
            lies("a bent table ^ 63.x", bent() ^ simple(63), 28, 0);
        });
        // x0x1 is 16 off 0, x0, x1 and the opposite of x0 ^ x1, and 32 off all others.
        long and = simple(1) & simple(2);
        Check.test("promise 12: the least is near by itself, a greater one by its opposite", () -> lies("x0x1", and, 16, 0));
        Check.test("promise 12: the least is near by its opposite, greater ones by themselves", () -> {
            lies("x0x1 ^ 63.x", and ^ simple(63), 16, 60);
            lies("x0x1 ^ 3.x", and ^ simple(3), 16, 0);
        });
        Check.test("promise 12: all near by opposites but the greatest", () -> lies("the opposite of x0x1 ^ 60.x", ~(and ^ simple(60)), 16, 60));
        Check.test("promise 12: 62 and 63 alone equally near", () -> {
            // 62.x where x0 is 0; where x0 is 1, half 62.x and half 63.x, told apart by x1x2 ^ x3.
            long between = simple(62) ^ (simple(1) & (simple(2) & simple(4) ^ simple(8)));
            lies("between 62.x and 63.x", between, 16, 62);
            lies("between their opposites", ~between, 16, 62);
            lies("one point over to 63.x", between ^ point(63), 15, 63);
            lies("one point over to 62.x", between ^ point(9), 15, 62);
        });
        Check.test("promise 12: it changes nothing", () -> staysAfter(s -> s.nearest(0) + 100 * s.nearest(3)));
    }

    private static void immunity() {
        Check.test("promise 13: 6, the greatest, for a table 0 everywhere", () -> immune("0", 0L, 6));
        Check.test("promise 13: 6 for a table 1 everywhere, whose spectrum is not 0 at size 0", () -> immune("1", FULL, 6));
        Check.test("promise 13: 5 for 63.x and its opposite, whose spectrum is not 0 at size 6", () -> {
            immune("63.x", simple(63), 5);
            immune("the opposite of 63.x", ~simple(63), 5);
        });
        Check.test("promise 13: every m from 0 to 5, for a.x of size m + 1", () -> {
            for (int a = 1; a < 64; a++) {
                immune(a + ".x", simple(a), Integer.bitCount(a) - 1);
                immune("the opposite of " + a + ".x", ~simple(a), Integer.bitCount(a) - 1);
            }
        });
        Check.test("promise 13: 0, the least, for one point off 0 or 1 everywhere", () -> {
            for (int x = 0; x < 64; x++) {
                immune("1 at " + x, point(x), 0);
                immune("0 at " + x, ~point(x), 0);
            }
        });
        Check.test("promise 13: all points of a size count, down to the last", () -> {
            // The spectrum of 7.x and 56.x in one is not 0 at 0, 7, 56 and 63 only.
            immune("7.x and 56.x", simple(7) & simple(56), 2);
            immune("31.x and 32.x", simple(31) & simple(32), 0);
            immune("15.x and 48.x", simple(15) & simple(48), 1);
        });
        Check.test("promise 13: a size that is 0 throughout does not help above one that is not", () -> {
            immune("1 at 0 and 63", point(0) | point(63), 1);
            immune("0 at 0 and 63", ~(point(0) | point(63)), 1);
        });
        Check.test("promise 13: it changes nothing", () -> staysAfter(s -> s.immunity(0) + 10 * s.immunity(3)));
    }

    private static void immune(String what, long table, int due) {
        for (int t = 0; t < 4; t++) {
            Check.due("immunity(" + t + ") of " + what, holding(t, table).immunity(t), due);
        }
    }

    private static void autocorrelation() {
        Check.test("promise 14: 64 everywhere for a table 0 everywhere", () -> correlates(0L, 0));
        Check.test("promise 14: 64 everywhere for a table 1 everywhere", () -> correlates(FULL, 0));
        Check.test("promise 14: 64 or -64, the least, for simple tables and their opposites", () -> {
            for (int b = 0; b < 64; b++) {
                correlates(simple(b), b);
                correlates(~simple(b), b);
            }
        });
        Check.test("promise 14: 64 at 0 whatever the table", () -> {
            for (int t = 0; t < 4; t++) {
                Check.due("mixed table " + t, States.mixed().autocorrelation(t, 0), 64);
            }
            Check.due("one point", holding(2, point(63)).autocorrelation(2, 0), 64);
        });
        Check.test("promise 14: one point is different at two places, whatever a", () -> {
            TruthSpectrum s = holding(3, point(63));
            TruthSpectrum opposite = holding(0, ~point(0));
            for (int a = 1; a < 64; a++) {
                Check.due("1 at 63, at " + a, s.autocorrelation(3, a), 60);
                Check.due("0 at 0, at " + a, opposite.autocorrelation(0, a), 60);
            }
        });
        Check.test("promise 14: 0 for a bent table, but at 0", () -> {
            TruthSpectrum s = holding(1, bent());
            for (int a = 1; a < 64; a++) {
                Check.due("at " + a, s.autocorrelation(1, a), 0);
            }
        });
        Check.test("promise 14: x ^ a is not a sum that carries or wraps around", () -> {
            TruthSpectrum s = holding(0, point(0) | point(63));
            Check.due("0 and 63, at 63", s.autocorrelation(0, 63), 64);
            Check.due("0 and 63, at 1", s.autocorrelation(0, 1), 56);
        });
        Check.test("promise 14: it changes nothing", () -> staysAfter(s -> s.autocorrelation(0, 0) + 1000 * s.autocorrelation(3, 63)));
    }

    /** The autocorrelation of b.x or its opposite. */
    private static void correlates(long table, int b) {
        TruthSpectrum s = holding(b % 4, table);
        for (int a = 0; a < 64; a++) {
            Check.due("of " + b + ".x or its opposite, at " + a, s.autocorrelation(b % 4, a), 64 * sign(a & b));
        }
    }

    private static void variables() {
        Check.test("promise 15: none for a table 0 everywhere", () -> depends("0", 0L, 0));
        Check.test("promise 15: none for a table 1 everywhere", () -> depends("1", FULL, 0));
        Check.test("promise 15: each set from none to all six", () -> {
            for (int a = 0; a < 64; a++) {
                depends(a + ".x", simple(a), a);
                depends("the opposite of " + a + ".x", ~simple(a), a);
            }
        });
        Check.test("promise 15: all six, where only two points tell, whichever they are", () -> {
            for (int x = 0; x < 64; x++) {
                depends("1 at " + x, point(x), 63);
                depends("0 at " + x, ~point(x), 63);
            }
        });
        Check.test("promise 15: all but the one in which two points differ", () -> {
            for (int n = 0; n < 6 * 64; n++) {
                int digit = 1 << n / 64;
                int x = n % 64;
                depends("1 at " + x + " and " + (x ^ digit), point(x) | point(x ^ digit), 63 - digit);
            }
        });
        Check.test("promise 15: points that differ in two digits or more do not tell", () -> {
            depends("1 at 0 and 63", point(0) | point(63), 63);
            depends("x0 ^ x1", simple(3), 3);
            depends("x5 where x0 is 1", simple(32) & simple(1), 33);
        });
        Check.test("promise 15: it changes nothing", () -> staysAfter(s -> s.variables(0) + 100 * s.variables(3)));
    }

    private static void depends(String what, long table, int due) {
        for (int t = 0; t < 4; t++) {
            Check.due("variables(" + t + ") of " + what, holding(t, table).variables(t), due);
        }
    }

    private static void structures() {
        Check.test("promise 16: 64, the greatest, for a table 0 everywhere", () -> structured("0", 0L, 64));
        Check.test("promise 16: 64 for a table 1 everywhere", () -> structured("1", FULL, 64));
        Check.test("promise 16: 64 for all simple tables, half of them by being different", () -> {
            for (int a = 1; a < 64; a++) {
                structured(a + ".x", simple(a), 64);
                structured("the opposite of " + a + ".x", ~simple(a), 64);
            }
        });
        Check.test("promise 16: 1, the least, the point 0 being one always", () -> {
            structured("a bent table", bent(), 1);
            structured("the opposite of a bent table", ~bent(), 1);
        });
        Check.test("promise 16: the same at all x but two is not the same", () -> {
            for (int x = 0; x < 64; x++) {
                structured("1 at " + x, point(x), 1);
                structured("0 at " + x, ~point(x), 1);
            }
        });
        Check.test("promise 16: different at all x but two is not different", () -> {
            structured("63.x but at 0", simple(63) ^ point(0), 1);
            structured("1.x but at 63", simple(1) ^ point(63), 1);
        });
        Check.test("promise 16: 2, the other by being the same", () -> {
            for (int a = 1; a < 64; a++) {
                structured("1 at 0 and " + a, point(0) | point(a), 2);
                structured("0 at 63 and " + (63 ^ a), ~(point(63) | point(63 ^ a)), 2);
            }
        });
        Check.test("promise 16: 2, the other by being different", () -> {
            for (int i = 0; i < 6; i++) {
                // Turned at 63 and at the point across from it, it stays different across.
                long f = simple(1 << i) ^ point(63) ^ point(63 ^ 1 << i);
                structured("variable " + i + " but at two points", f, 2);
            }
        });
        Check.test("promise 16: it changes nothing", () -> staysAfter(s -> s.structures(0) + 100 * s.structures(3)));
    }

    private static void structured(String what, long table, int due) {
        for (int t = 0; t < 4; t++) {
            Check.due("structures(" + t + ") of " + what, holding(t, table).structures(t), due);
        }
    }

    private static void shifted() {
        Check.test("promise 17: every table is one of itself, by 0 and 0", () -> {
            for (int state = 0; state < States.COUNT; state++) {
                for (int t = 0; t < 4; t++) {
                    Check.due("table " + t + ", " + States.name(state), States.made(state).shifted(t, t), true);
                }
            }
        });
        Check.test("promise 17: 0 everywhere of 0 everywhere, 1 everywhere of 1 everywhere", () -> {
            made("0 of 0", 0L, 0L, true);
            made("1 of 1", FULL, FULL, true);
        });
        Check.test("promise 17: 1 everywhere is not one of 0 everywhere, nor the other way", () -> {
            made("1 of 0", FULL, 0L, false);
            made("0 of 1", 0L, FULL, false);
        });
        Check.test("promise 17: of 0 everywhere every b.x can be made, and no opposite", () -> {
            for (int b = 0; b < 64; b++) {
                made(b + ".x of 0", simple(b), 0L, true);
                made("the opposite of " + b + ".x of 0", ~simple(b), 0L, false);
            }
        });
        Check.test("promise 17: of 1 everywhere every opposite of b.x can be made, and no b.x", () -> {
            for (int b = 0; b < 64; b++) {
                made("the opposite of " + b + ".x of 1", ~simple(b), FULL, true);
                made(b + ".x of 1", simple(b), FULL, false);
            }
        });
        Check.test("promise 17: by one a alone, each from 0 to 63, and one b alone, 0 or 63", () -> {
            for (int a = 0; a < 64; a++) {
                made("point " + a + " of point 0", point(a), point(0), true);
                made("point 0 of point " + a, point(0), point(a), true);
                made("point " + a + " ^ 63.x of point 0", point(a) ^ simple(63), point(0), true);
            }
        });
        Check.test("promise 17: by one a and one b alone, any of them", () -> {
            for (int n = 0; n < 64 * 64; n++) {
                TruthSpectrum s = holding(0, point(63));
                s.shift(1, 0, n >> 6, n & 63);
                Check.due("by " + (n >> 6) + " and " + (n & 63), s.shifted(1, 0), true);
            }
        });
        Check.test("promise 17: one point off is not enough, the first or the last", () -> {
            for (int b = 0; b < 64; b++) {
                made(b + ".x but at 0, of 0", simple(b) ^ point(0), 0L, false);
                made(b + ".x but at 63, of 0", simple(b) ^ point(63), 0L, false);
                made("0 of " + b + ".x but at 63", 0L, simple(b) ^ point(63), false);
            }
        });
        Check.test("promise 17: as many ones are not enough", () -> {
            made("points 0 and 3 of points 0 and 1", point(0) | point(3), point(0) | point(1), false);
            made("points 62 and 63 of points 0 and 1", 3L << 62, 3L, true);
        });
        Check.test("promise 17: what t can be made of cannot always be made of t", () -> {
            made("1.x but at 1, of point 0", simple(1) ^ point(1), point(0), true);
            made("point 0, of 1.x but at 1", point(0), simple(1) ^ point(1), false);
        });
        Check.test("promise 17: it changes nothing", () -> staysAfter(s -> (s.shifted(0, 3) ? 1 : 0) + (s.shifted(3, 0) ? 2 : 0)));
    }

    /** Whether one table can be made of the other, in all the places that two tables can have. */
    private static void made(String what, long table, long of, boolean due) {
        for (int n = 0; n < 12; n++) {
            int t = n % 4;
            int r = (t + 1 + n / 4) % 4;
            TruthSpectrum s = holding(t, table);
            hold(s, r, of);
            Check.due("shifted(" + t + ", " + r + "): " + what, s.shifted(t, r), due);
        }
    }

    private record Last(String name, Question question, long due) {
    }

    /** For an object with 1 at 63 only in table 0, 63.x in table 1 and nothing in tables 2 and 3. */
    private static final Last[] LAST = {
        new Last("put(0, 63, 0)", s -> s.put(0, 63, 0), 1),
        new Last("put(0, 64, 0)", s -> s.put(0, 64, 0), BAD),
        new Last("turnForm(0, 0)", s -> s.turnForm(0, 0), 63),
        new Last("combine(2, 2, 0, 1)", s -> s.combine(2, 2, 0, 1), 33),
        new Last("shift(2, 0, 63, 63)", s -> s.shift(2, 0, 63, 63), 33),
        new Last("value(1, 62)", s -> s.value(1, 62), 1),
        new Last("ones(1)", s -> s.ones(1), 32),
        new Last("ones(4)", s -> s.ones(4), BAD),
        new Last("form(1, 32)", s -> s.form(1, 32), 1),
        new Last("degree(0)", s -> s.degree(0), 6),
        new Last("spectrum(1, 63)", s -> s.spectrum(1, 63), 64),
        new Last("distance(0)", s -> s.distance(0), 1),
        new Last("nearest(1)", s -> s.nearest(1), 63),
        new Last("immunity(1)", s -> s.immunity(1), 5),
        new Last("autocorrelation(1, 1)", s -> s.autocorrelation(1, 1), -64),
        new Last("variables(1)", s -> s.variables(1), 63),
        new Last("structures(1)", s -> s.structures(1), 64),
        new Last("shifted(1, 2)", s -> s.shifted(1, 2) ? 1 : 0, 1),
        new Last("shifted(0, 1)", s -> s.shifted(0, 1) ? 1 : 0, 0),
    };

    private static void lastCalls() {
        for (Last last : LAST) {
            Check.test("what it is: " + last.name + " as the last promised call", () -> {
                TruthSpectrum s = usedFor(PROMISED_CALLS - 1);
                Check.due(last.name, last.question.of(s), last.due);
            });
        }
        Check.test("what it is: a change by the call before the last is seen by the last", () -> {
            TruthSpectrum s = usedFor(PROMISED_CALLS - 2);
            Check.due("put(2, 63, 1)", s.put(2, 63, 1), 0);
            Check.due("value(2, 63)", s.value(2, 63), 1);
        });
        Check.test("what it is: refused calls before the last do no harm", () -> {
            TruthSpectrum s = new TruthSpectrum();
            for (int call = 1; call < PROMISED_CALLS; call++) {
                Check.due("shift from table 4", s.shift(call % 4, 4, 0, 1), BAD);
            }
            Check.due("turnForm(0, 0)", s.turnForm(0, 0), 64);
        });
    }

    private static TruthSpectrum usedFor(int calls) {
        TruthSpectrum s = new TruthSpectrum();
        s.shift(1, 1, 0, 63);
        for (int call = 2; call < calls; call++) {
            s.put(0, 63, call & 1);
        }
        s.put(0, 63, 1);
        return s;
    }
}
