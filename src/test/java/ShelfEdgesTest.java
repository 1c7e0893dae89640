/** Promises 33 to 42 at their edges: bodies and their acts, the trace, shelves with their rows, counts. */
public final class ShelfEdgesTest {
    private static final Due DUE = new Due("ShelfEdgesTest");
    private static final int MIN = Integer.MIN_VALUE;
    private static final int MAX = Integer.MAX_VALUE;
    /** By kinds, then acts: the bodies that run, as they begin. */
    private static final int[][][] RUN = {
        {{1}, {10, 1}, {11}, {2, 10, 1, 11}},
        {{20, 1}, {10, 20, 1}, {11}, {2, 10, 20, 1, 11}},
        {{1}, {30, 10, 1}, {11}, {2, 30, 10, 1, 11}},
        {{1}, {41, 30, 10, 1}, {40, 11}, {2, 41, 30, 10, 1, 40, 11}},
        {{20, 1}, {10, 20, 1}, {11}, {50, 2, 10, 20, 1, 11}},
        {{1}, {41, 30, 10, 1}, {60, 40, 11, 1}, {61, 2, 41, 30, 10, 1, 60, 40, 11, 1}},
        {{70, 1}, {10, 70, 1}, {11}, {2, 10, 70, 1, 11}},
        {{81, 70, 1}, {80, 10, 81, 70, 1, 11}, {11}, {2, 80, 10, 81, 70, 1, 11, 11}}
    };

    public static void main(String[] args) {
        promise33();
        promise33Full();
        promise34Arguments();
        promise34Values();
        promise34Wraps();
        promise35();
        promise35NoTrace();
        promise36();
        promise37Arguments();
        promise37Zeros();
        promise38And39Places();
        promise38And39Refusals();
        promise38LowestBits();
        promise40Refusals();
        promise40Places();
        promise40AsTheyWere();
        promise40Sorts();
        promise41();
        promise41Kinds();
        promise42();
        DUE.end();
    }

    private static SkinOfTeeth kinds() {
        SkinOfTeeth x = new SkinOfTeeth();
        for (int kind = 0; kind < 8; kind++) {
            x.body(kind);
        }
        return x;
    }

    private static void promise33() {
        for (int kind : new int[] {-1, 8, 9, MIN, MAX}) {
            SkinOfTeeth x = new SkinOfTeeth();
            DUE.is("33 kind " + kind, x.body(kind), -1);
            DUE.is("33 none is kept", x.count(4), 0);
            DUE.is("33 the first number is free", x.body(7), 0);
        }
        for (int kind = 0; kind <= 7; kind++) {
            SkinOfTeeth x = new SkinOfTeeth();
            DUE.is("33 kind " + kind, x.body(kind), 0);
            x.keep(0, 0);
            DUE.is("33 its kind", x.taken(0, 0), kind);
        }
    }

    private static void promise33Full() {
        SkinOfTeeth x = new SkinOfTeeth();
        for (int i = 0; i < 50; i++) {
            DUE.is("33 its number", x.body(i % 8), i);
        }
        DUE.is("33 the fifty-first", x.body(0), -3);
        DUE.is("33 the fifty-first", x.body(7), -3);
        DUE.is("33 BAD ahead of FULL", x.body(8), -1);
        DUE.is("33 BAD ahead of FULL", x.body(-1), -1);
        DUE.is("33 fifty", x.count(4), 50);
        for (int i = 0; i < 50; i++) {
            x.keep(5, i);
            DUE.is("33 each of its kind", x.taken(5, 0), i % 8);
            DUE.is("33 each of its number", x.act(i, 2, 0) == 0 ? 0 : 1, i == 0 ? 0 : 1);
        }
        DUE.is("33 the last acts", x.act(49, 0, 0), 52);
        DUE.is("33 there is none beyond", x.act(50, 0, 0), 0);
        DUE.is("33 there is none beyond", x.keep(5, 50), -1);
    }

    private static void promise34Arguments() {
        SkinOfTeeth x = kinds();
        for (int body : new int[] {-1, 8, 9, 49, 50, MIN, MAX}) {
            x.act(5, 3, 1);
            DUE.is("34 body " + body, x.act(body, 0, 100), 0);
            DUE.is("34 no trace then", x.trace(0), -1);
            DUE.is("34 none ran", x.count(5), 0);
        }
        for (int act : new int[] {-1, 4, 5, MIN, MAX}) {
            x.act(5, 3, 1);
            DUE.is("34 act " + act, x.act(0, act, 100), 0);
            DUE.is("34 no trace then", x.trace(0), -1);
            DUE.is("34 none ran", x.count(5), 0);
        }
        SkinOfTeeth y = new SkinOfTeeth();
        DUE.is("34 no bodies at all", y.act(0, 0, 100), 0);
        DUE.is("34 none ran", y.count(5), 0);
    }

    /** What the body n of a kind does, told by formulas. */
    private static int due(int kind, int act, int n, int x) {
        int bites = x + n;
        bites = kind == 1 || kind == 4 ? bites + 3 : kind == 6 ? bites * 2 : kind == 7 ? bites * 2 - 1 : bites;
        if (act == 0) {
            return bites;
        }
        int grins = x ^ n;
        grins = kind == 3 ? grins * 3 : kind == 5 ? grins * 3 - (2 + n) : grins;
        if (act == 2) {
            return grins;
        }
        if (act == 1) {
            switch (kind) {
                case 2:
                    return -2 * bites;
                case 3, 5:
                    return -2 * (bites + 1);
                case 7:
                    return 2 * bites + (2 ^ n);
                default:
                    return 2 * bites;
            }
        }
        int tells = due(kind, 1, n, x) - due(kind, 2, n, 1);
        return kind == 4 ? tells ^ 5 : kind == 5 ? tells + 1 : tells;
    }

    private static void promise34Values() {
        for (int v : new int[] {0, 1, -1, 9, -100, 1000000}) {
            SkinOfTeeth x = kinds();
            for (int kind = 0; kind < 8; kind++) {
                for (int act = 0; act < 4; act++) {
                    DUE.is("34 kind " + kind + " act " + act + " x " + v, x.act(kind, act, v), due(kind, act, kind, v));
                }
            }
        }
        for (int first = 0; first < 8; first++) {
            SkinOfTeeth x = new SkinOfTeeth();
            for (int i = 0; i < 50; i++) {
                x.body((first + i * 3) % 8);
            }
            for (int i = 0; i < 50; i++) {
                for (int act = 0; act < 4; act++) {
                    DUE.is("34 by its number " + i, x.act(i, act, 77), due((first + i * 3) % 8, act, i, 77));
                }
            }
        }
    }

    private static void promise34Wraps() {
        SkinOfTeeth x = kinds();
        for (int v : new int[] {MIN, MAX, MIN + 1, MAX - 1, 1 << 30, -(1 << 30) - 1, MAX / 3, MIN / 3}) {
            for (int kind = 0; kind < 8; kind++) {
                for (int act = 0; act < 4; act++) {
                    DUE.is("34 wraps: kind " + kind + " act " + act + " x " + v, x.act(kind, act, v), due(kind, act, kind, v));
                }
            }
        }
        DUE.is("34 bites beyond the greatest", x.act(1, 0, MAX), MIN + 3);
        DUE.is("34 lies of the least", x.act(0, 1, MIN), 0);
        DUE.is("34 -lies of the least", x.act(2, 1, (1 << 30) - 2), MIN);
        DUE.is("34 x + 1 beyond the greatest", x.act(3, 1, MAX), -6);
    }

    private static void promise35() {
        SkinOfTeeth x = kinds();
        for (int kind = 0; kind < 8; kind++) {
            for (int act = 0; act < 4; act++) {
                int[] run = RUN[kind][act];
                x.act(kind, act, 3);
                DUE.is("35 all that ran", x.count(5), run.length);
                for (int i = 0; i < run.length; i++) {
                    DUE.is("35 kind " + kind + " act " + act + " trace " + i, x.trace(i), run[i]);
                }
                DUE.is("35 just beyond the last", x.trace(run.length), -1);
                DUE.is("35 just ahead of the first", x.trace(-1), -1);
            }
        }
        x.act(5, 3, 1);
        DUE.all("35 far beyond", -1, () -> x.trace(23), () -> x.trace(24), () -> x.trace(25), () -> x.trace(MAX),
            () -> x.trace(MIN));
    }

    private static void promise35NoTrace() {
        SkinOfTeeth x = new SkinOfTeeth();
        DUE.all("35 no act as yet", -1, () -> x.trace(0), () -> x.trace(-1), () -> x.trace(1));
        x.body(0);
        DUE.is("35 a body alone", x.trace(0), -1);
        x.act(0, 0, 1);
        DUE.is("35 one ran", x.trace(0), 1);
        DUE.is("35 one ran", x.trace(1), -1);
        x.act(0, 3, 1);
        x.act(0, 0, 1);
        DUE.is("35 of the latest act alone", x.trace(1), -1);
        x.act(0, 4, 1);
        DUE.is("35 no such act", x.trace(0), -1);
    }

    private static void promise36() {
        SkinOfTeeth x = kinds();
        for (int shelf : new int[] {-1, 6, 7, MIN, MAX}) {
            DUE.is("36 shelf " + shelf, x.keep(shelf, 0), -1);
            DUE.is("36 shelf " + shelf + ", nothing", x.keep(shelf, -1), -1);
        }
        for (int body : new int[] {-2, 8, 9, 50, MIN, MAX}) {
            DUE.is("36 body " + body, x.keep(0, body), -1);
            DUE.is("36 as it was", x.taken(0, 0), -11);
        }
        for (int shelf = 0; shelf < 6; shelf++) {
            DUE.is("36 the first body on " + shelf, x.keep(shelf, 0), 1);
            DUE.is("36 it is there", x.taken(shelf, 0), 0);
            DUE.is("36 the last body on " + shelf, x.keep(shelf, 7), 1);
            DUE.is("36 it is there", x.taken(shelf, 0), 7);
            DUE.is("36 BAD", x.keep(shelf, 8), -1);
            DUE.is("36 as it was", x.taken(shelf, 0), 7);
            DUE.is("36 nothing", x.keep(shelf, -1), 1);
            DUE.is("36 nothing is there", x.taken(shelf, 0), -11);
        }
        x.row(0, 0, 60);
        DUE.is("36 a body for a row", x.keep(0, 2), 1);
        DUE.is("36 no row any more", x.put(0, 0, 1), -12);
        x.row(0, 0, 60);
        DUE.is("36 nothing for a row", x.keep(0, -1), 1);
        DUE.is("36 no row any more", x.put(0, 0, 1), -11);
        SkinOfTeeth y = new SkinOfTeeth();
        DUE.is("36 no bodies at all", y.keep(0, 0), -1);
        DUE.is("36 nothing for nothing", y.keep(0, -1), 1);
    }

    private static void promise37Arguments() {
        SkinOfTeeth x = kinds();
        for (int shelf : new int[] {-1, 6, MIN, MAX}) {
            DUE.is("37 shelf " + shelf, x.row(shelf, 0, 1), -1);
            DUE.is("37 shelf " + shelf + " ahead of -14", x.row(shelf, 0, -1), -1);
        }
        for (int sort : new int[] {-1, 5, MIN, MAX}) {
            DUE.is("37 sort " + sort, x.row(0, sort, 1), -1);
            DUE.is("37 sort " + sort + " ahead of -14", x.row(0, sort, -1), -1);
        }
        for (int n : new int[] {61, 62, MAX}) {
            DUE.is("37 n " + n, x.row(0, 0, n), -1);
        }
        for (int n : new int[] {-1, -60, MIN}) {
            DUE.is("37 n " + n, x.row(0, 4, n), -14);
        }
        DUE.is("37 nothing is there as yet", x.element(0, 0) == Long.MIN_VALUE ? x.put(0, 0, 1) : 0, -11);
        for (int shelf = 0; shelf < 6; shelf++) {
            for (int sort = 0; sort < 5; sort++) {
                for (int n : new int[] {0, 1, 59, 60}) {
                    DUE.is("37 a row on " + shelf, x.row(shelf, sort, n), 1);
                    DUE.is("37 just beyond it", x.put(shelf, n, 1), -13);
                    DUE.is("37 its last", n == 0 ? 1 : x.put(shelf, n - 1, 1), 1);
                }
            }
        }
        x.keep(2, 3);
        x.row(2, 0, -1);
        x.row(2, 0, 61);
        x.row(2, 5, 1);
        DUE.is("37 a body stays where it is refused", x.taken(2, 0), 3);
        DUE.is("37 a row for a body", x.row(2, 0, 1), 1);
        DUE.is("37 a row for a body", x.taken(2, 0), -12);
    }

    private static void promise37Zeros() {
        SkinOfTeeth x = new SkinOfTeeth();
        for (int sort = 0; sort < 5; sort++) {
            x.row(0, sort, 60);
            for (int i = 0; i < 60; i++) {
                x.put(0, i, 1);
            }
            x.row(0, sort, 60);
            boolean zeros = true;
            for (int i = 0; i < 60 && sort < 1; i++) {
                zeros &= x.element(0, i) == 0;
            }
            DUE.is("37 all 0 at first", zeros ? 1 : 0, 1);
            DUE.is("37 the first", x.element(0, 0), 0);
            DUE.is("37 the last", x.element(0, 59), 0);
        }
        SkinOfTeeth y = new SkinOfTeeth();
        y.row(0, 3, 60);
        y.put(0, 59, 7);
        y.row(0, 3, 59);
        y.row(0, 3, 60);
        DUE.is("37 what was beyond a lesser row is 0", y.element(0, 59), 0);
        y.put(0, 59, 7);
        y.row(1, 3, 60);
        DUE.is("37 another shelf's row", y.element(1, 59), 0);
        DUE.is("37 it is still there", y.element(0, 59), 7);
    }

    private static void promise38And39Places() {
        for (int n : new int[] {0, 1, 2, 59, 60}) {
            SkinOfTeeth x = new SkinOfTeeth();
            x.row(5, 2, n);
            for (int i : new int[] {-1, n, n + 1, 60, MIN, MAX}) {
                DUE.is("38 place " + i + " of " + n, x.put(5, i, 1), -13);
                DUE.is("39 place " + i + " of " + n, x.element(5, i), Long.MIN_VALUE);
            }
            for (int i = 0; i < n; i++) {
                DUE.is("38 place " + i, x.put(5, i, i + 1), 1);
            }
            for (int i = 0; i < n; i++) {
                DUE.is("39 place " + i, x.element(5, i), i + 1);
            }
        }
    }

    private static void promise38And39Refusals() {
        SkinOfTeeth x = new SkinOfTeeth();
        x.body(0);
        x.keep(0, 0);
        x.row(1, 0, 0);
        for (int shelf : new int[] {-1, 6, MIN, MAX}) {
            DUE.is("38 shelf " + shelf, x.put(shelf, 0, 1), -1);
            DUE.is("39 shelf " + shelf, x.element(shelf, 0), Long.MIN_VALUE);
        }
        for (int i : new int[] {-1, 0, 60, MIN, MAX}) {
            DUE.is("38 a body, ahead of -13", x.put(0, i, 1), -12);
            DUE.is("39 a body", x.element(0, i), Long.MIN_VALUE);
            DUE.is("38 an empty row", x.put(1, i, 1), -13);
            DUE.is("39 an empty row", x.element(1, i), Long.MIN_VALUE);
            DUE.is("38 nothing, ahead of -13", x.put(2, i, 1), -11);
            DUE.is("39 nothing", x.element(2, i), Long.MIN_VALUE);
        }
    }

    private static void promise38LowestBits() {
        long[] all = {0, 1, -1, 127, 128, 129, 255, 256, -128, -129, 32767, 32768, 65535, 65536, -32768, -32769,
            2147483647L, 2147483648L, 4294967295L, 4294967296L, -2147483648L, -2147483649L, Long.MAX_VALUE, Long.MIN_VALUE,
            Long.MIN_VALUE + 1, 0x0123456789ABCDEFL, 0x8000000000000001L, 0x0080008000800080L};
        for (long v : all) {
            SkinOfTeeth x = new SkinOfTeeth();
            long[] due = {(byte) v, (short) v, (int) v, v, v == 0 ? 0 : 1};
            for (int sort = 0; sort < 5; sort++) {
                x.row(sort, sort, 3);
                DUE.is("38 put " + v, x.put(sort, 1, v), 1);
                DUE.is("38 sort " + sort + " of " + v, x.element(sort, 1), due[sort]);
                DUE.is("38 those beside it", x.element(sort, 0) + x.element(sort, 2), 0);
                x.put(sort, 1, 1);
                DUE.is("38 it becomes another", x.element(sort, 1), 1);
            }
        }
    }

    private static void promise40Refusals() {
        SkinOfTeeth x = new SkinOfTeeth();
        x.body(0);
        x.keep(1, 0);
        // 0 nothing, 1 a body, 2 bytes, 3 ints, 4 bytes, 5 nothing
        x.row(2, 0, 4);
        x.row(3, 2, 4);
        x.row(4, 0, 4);
        for (int shelf : new int[] {-1, 6, MIN, MAX}) {
            for (int other = 0; other < 6; other++) {
                DUE.is("40 from " + shelf, x.shift(shelf, 0, other, 0, 1), -1);
                DUE.is("40 to " + shelf, x.shift(other, 0, shelf, 0, -1), -1);
            }
        }
        int[] holds = {-2, -1, 0, 2, 0, -2};
        for (int from = 0; from < 6; from++) {
            for (int to = 0; to < 6; to++) {
                int due = holds[from] == -2 || holds[to] == -2 ? -11 : 0;
                due = due == 0 && (holds[from] == -1 || holds[to] != holds[from]) ? -12 : due;
                DUE.is("40 from " + from + " to " + to, x.shift(from, 0, to, 0, 4), due == 0 ? 4 : due);
                DUE.is("40 ahead of -13, from " + from + " to " + to, x.shift(from, -1, to, 9, -1), due == 0 ? -13 : due);
                DUE.is("40 none, from " + from + " to " + to, x.shift(from, 0, to, 0, 0), due);
            }
        }
    }

    private static void promise40Places() {
        SkinOfTeeth x = new SkinOfTeeth();
        x.row(0, 3, 5);
        x.row(1, 3, 3);
        for (int i = -1; i <= 6; i++) {
            for (int j = -1; j <= 4; j++) {
                for (int n = -1; n <= 4; n++) {
                    boolean well = i >= 0 && j >= 0 && n >= 0 && i + n <= 5 && j + n <= 3;
                    if ((i + 1) * (j + 1) * (n + 1) % 2 == 0 || n > 1) {
                        DUE.is("40 " + n + " from " + i + " to " + j, x.shift(0, i, 1, j, n), well ? n : -13);
                    }
                }
            }
        }
        int[][] far = {{MIN, 0, 1}, {MAX, 0, 1}, {0, MIN, 1}, {0, MAX, 1}, {0, 0, MIN}, {0, 0, MAX}, {MAX, 0, MAX},
            {1, 1, MAX}, {MAX, MAX, MAX}, {MIN, MIN, MIN}, {MAX, 0, 0}, {0, MAX, 0}, {5, 0, MAX}, {MIN, 0, MIN}};
        for (int[] f : far) {
            DUE.is("40 far beyond", x.shift(0, f[0], 1, f[1], f[2]), -13);
        }
        x.row(2, 3, 0);
        DUE.is("40 none of an empty row", x.shift(2, 0, 2, 0, 0), 0);
        DUE.is("40 one of an empty row", x.shift(2, 0, 0, 0, 1), -13);
        DUE.is("40 one to an empty row", x.shift(0, 0, 2, 0, 1), -13);
        x.row(3, 3, 60);
        DUE.is("40 all of sixty", x.shift(3, 0, 3, 0, 60), 60);
        DUE.is("40 sixty-one of sixty", x.shift(3, 0, 3, 0, 61), -13);
    }

    private static void promise40AsTheyWere() {
        for (int i = 0; i <= 6; i++) {
            for (int j = 0; j <= 6; j++) {
                int n = 6 - Math.max(i, j);
                SkinOfTeeth x = new SkinOfTeeth();
                long[] due = new long[6];
                x.row(0, 1, 6);
                for (int k = 0; k < 6; k++) {
                    x.put(0, k, 10 + k);
                    due[k] = k >= j && k < j + n ? 10 + i + k - j : 10 + k;
                }
                DUE.is("40 in itself", x.shift(0, i, 0, j, n), n);
                for (int k = 0; k < 6; k++) {
                    DUE.is("40 in itself from " + i + " to " + j, x.element(0, k), due[k]);
                }
            }
        }
    }

    private static void promise40Sorts() {
        long[] v = {-128, -32768, MIN, Long.MIN_VALUE + 1, 1};
        for (int sort = 0; sort < 5; sort++) {
            SkinOfTeeth x = new SkinOfTeeth();
            x.row(0, sort, 2);
            x.row(5, sort, 60);
            x.put(0, 1, v[sort]);
            DUE.is("40 sort " + sort, x.shift(0, 0, 5, 58, 2), 2);
            DUE.is("40 it came", x.element(5, 59), v[sort]);
            DUE.is("40 the one beside it", x.element(5, 58), 0);
            DUE.is("40 it stays where it was", x.element(0, 1), v[sort]);
            DUE.is("40 none", x.shift(5, 59, 0, 0, 0), 0);
            DUE.is("40 as it was", x.element(0, 0), 0);
            DUE.is("40 back to another place", x.shift(5, 59, 0, 0, 1), 1);
            DUE.is("40 it came", x.element(0, 0), v[sort]);
        }
    }

    private static void promise41() {
        SkinOfTeeth x = kinds();
        x.keep(5, 7);
        for (int shelf : new int[] {-1, 6, MIN, MAX}) {
            DUE.is("41 shelf " + shelf, x.taken(shelf, 0), -1);
        }
        for (int k : new int[] {-1, 8, 9, MIN, MAX}) {
            DUE.is("41 k " + k, x.taken(5, k), -1);
            DUE.is("41 k " + k + " ahead of -11", x.taken(0, k), -1);
        }
        for (int k = 0; k <= 7; k++) {
            DUE.is("41 nothing for " + k, x.taken(0, k), -11);
        }
        for (int sort = 0; sort < 5; sort++) {
            x.row(1, sort, sort);
            DUE.is("41 a row of sort " + sort, x.taken(1, sort), -12);
        }
    }

    private static void promise41Kinds() {
        // for each kind the kinds that it may be taken for, as bits
        int[] for0To7 = {1, 1 + 2, 1 + 4, 1 + 4 + 8, 1 + 2 + 16, 1 + 4 + 8 + 32, 1 + 64, 1 + 64 + 128};
        SkinOfTeeth x = kinds();
        for (int kind = 0; kind < 8; kind++) {
            x.keep(0, kind);
            for (int k = 0; k < 8; k++) {
                DUE.is("41 kind " + kind + " for " + k, x.taken(0, k), (for0To7[kind] >> k & 1) == 1 ? kind : -12);
            }
        }
    }

    private static void promise42() {
        SkinOfTeeth x = new SkinOfTeeth();
        for (int what : new int[] {-1, 6, 7, MIN, MAX}) {
            DUE.is("42 count " + what, x.count(what), -1);
        }
        for (int i = 1; i <= 7; i++) {
            x.person(i % 2);
            DUE.is("42 people", x.count(0), i);
            DUE.is("42 gone", x.count(1), i / 2);
        }
        x.mend(1, 8, 255);
        DUE.is("42 gone, with caps", x.count(1), 3);
        x.mend(1, 7, 1);
        DUE.is("42 not gone by one flake", x.count(1), 2);
        Due.law(x, "99");
        for (int i = 0; i < 7; i++) {
            x.say(i, 10);
        }
        DUE.is("42 all gone but one with a capped flake", x.count(1), 6);
        x.lend(1, 7);
        DUE.is("42 it is lent", x.count(1), 6);
        x.mend(0, 7, 0);
        DUE.is("42 all gone", x.count(1), 7);
        for (int i = 1; i <= 120; i++) {
            x.feed(65);
        }
        DUE.is("42 the tape", x.count(2), 120);
        x.law();
        DUE.is("42 the tape, read", x.count(2), 0);
        DUE.is("42 changes", x.count(3), 3);
        x.undo();
        DUE.is("42 changes, one undone", x.count(3), 2);
        x.redo();
        DUE.is("42 changes, done again", x.count(3), 3);
        DUE.is("42 no bodies", x.count(4) + x.count(5), 0);
        x.body(5);
        x.act(0, 3, 1);
        DUE.is("42 a body", x.count(4), 1);
        DUE.is("42 bodies that ran", x.count(5), 10);
        x.act(0, 0, 1);
        DUE.is("42 bodies that ran in the latest", x.count(5), 1);
    }
}
