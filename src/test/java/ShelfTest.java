/** Promises 33 to 42: bodies, acts, shelves, counts. */
public final class ShelfTest {
    private static final Due DUE = new Due("ShelfTest");
    private static final int[] ABOVE = {-1, 0, 0, 2, 1, 3, 0, 6};

    public static void main(String[] args) {
        body();
        acts();
        traces();
        keep();
        row();
        putAndElement();
        shift();
        taken();
        count();
        constants();
        DUE.end();
    }

    private static void body() {
        SkinOfTeeth x = new SkinOfTeeth();
        DUE.all("body wrong", -1, () -> x.body(-1), () -> x.body(8), () -> x.body(Integer.MAX_VALUE));
        for (int i = 0; i < 50; i++) {
            DUE.is("body", x.body(i % 8), i);
        }
        DUE.is("full", x.body(0), -3);
        DUE.is("wrong and full", x.body(8), -1);
        DUE.is("bodies", x.count(4), 50);
        DUE.is("the fiftieth, of kind 1: 10 + 49 + 3", x.act(49, 0, 10), 62);
    }

    /** Body n of kind n; its acts with x, worked out by hand from the list of bodies. */
    private static void acts() {
        SkinOfTeeth x = new SkinOfTeeth();
        for (int kind = 0; kind < 8; kind++) {
            x.body(kind);
        }
        int[][] due = {
            {9, 18, 9, 17},
            {13, 26, 8, 26},
            {11, -22, 11, -25},
            {12, -26, 30, -32},
            {16, 32, 13, 30},
            {14, -30, 29, -34},
            {30, 60, 15, 53},
            {31, 67, 14, 61}
        };
        for (int kind = 0; kind < 8; kind++) {
            for (int act = 0; act < 4; act++) {
                DUE.is("act " + act + " of kind " + kind, x.act(kind, act, 9), due[kind][act]);
            }
        }
        DUE.is("ints wrap", x.act(7, 0, Integer.MAX_VALUE), (Integer.MAX_VALUE + 7) * 2 - 1);
        DUE.is("ints wrap", x.act(0, 1, Integer.MIN_VALUE), 0);
        DUE.is("ints wrap", x.act(3, 1, Integer.MAX_VALUE), -((Integer.MIN_VALUE + 3) * 2));
    }

    private static void trace(SkinOfTeeth x, int body, int act, int... due) {
        x.act(body, act, 1);
        DUE.is("ran", x.count(5), due.length);
        for (int i = 0; i < due.length; i++) {
            DUE.is("trace " + body + " " + act + " " + i, x.trace(i), due[i]);
        }
        DUE.is("trace's end", x.trace(due.length), -1);
        DUE.is("ahead of the trace", x.trace(-1), -1);
    }

    private static void traces() {
        SkinOfTeeth x = new SkinOfTeeth();
        for (int kind = 0; kind < 8; kind++) {
            x.body(kind);
        }
        trace(x, 0, 3, 2, 10, 1, 11);
        trace(x, 1, 3, 2, 10, 20, 1, 11);
        trace(x, 2, 3, 2, 30, 10, 1, 11);
        trace(x, 3, 3, 2, 41, 30, 10, 1, 40, 11);
        trace(x, 4, 3, 50, 2, 10, 20, 1, 11);
        trace(x, 5, 3, 61, 2, 41, 30, 10, 1, 60, 40, 11, 1);
        trace(x, 6, 3, 2, 10, 70, 1, 11);
        trace(x, 7, 3, 2, 80, 10, 81, 70, 1, 11, 11);
        trace(x, 5, 2, 60, 40, 11, 1);
        trace(x, 7, 1, 80, 10, 81, 70, 1, 11);
        DUE.is("no such body", x.act(8, 0, 1), 0);
        DUE.is("no trace", x.trace(0), -1);
        DUE.is("none ran", x.count(5), 0);
        x.act(5, 3, 1);
        DUE.is("no such act", x.act(5, 4, 1), 0);
        DUE.is("no trace", x.trace(0), -1);
        x.act(5, 3, 1);
        DUE.is("no such act", x.act(5, -1, 1), 0);
        DUE.is("none ran", x.count(5), 0);
        x.act(5, 3, 1);
        DUE.is("no such body", x.act(-1, 1, 1), 0);
        DUE.is("none ran", x.count(5), 0);
    }

    private static void keep() {
        SkinOfTeeth x = new SkinOfTeeth();
        DUE.is("no bodies yet", x.keep(0, 0), -1);
        x.body(2);
        DUE.is("a body", x.keep(5, 0), 1);
        DUE.is("held", x.taken(5, 2), 2);
        DUE.all("keep wrong", -1, () -> x.keep(5, 1), () -> x.keep(5, -2), () -> x.keep(6, 0), () -> x.keep(-1, 0),
            () -> x.keep(6, -1));
        DUE.is("nothing", x.keep(5, -1), 1);
        DUE.is("nothing", x.taken(5, 2), -11);
        DUE.is("nothing", x.keep(5, -1), 1);
        x.row(5, 0, 3);
        DUE.is("a body for a row", x.keep(5, 0), 1);
        DUE.is("no row", x.put(5, 0, 1), -12);
    }

    private static void row() {
        SkinOfTeeth x = new SkinOfTeeth();
        DUE.all("row wrong", -1, () -> x.row(6, 0, 1), () -> x.row(-1, 0, 1), () -> x.row(0, 5, 1),
            () -> x.row(0, -1, 1), () -> x.row(0, 0, 61), () -> x.row(0, 5, -1), () -> x.row(6, 0, -1),
            () -> x.row(0, 0, Integer.MAX_VALUE));
        DUE.all("row below 0", -14, () -> x.row(0, 0, -1), () -> x.row(0, 4, Integer.MIN_VALUE));
        DUE.is("nothing there", x.put(0, 0, 1), -11);
        DUE.is("row", x.row(0, 3, 60), 1);
        for (int i = 0; i < 60; i++) {
            x.put(0, i, i + 1);
        }
        DUE.is("row, below 0", x.row(0, 3, -1), -14);
        DUE.is("as it was", x.element(0, 59), 60);
        DUE.is("a new row", x.row(0, 3, 60), 1);
        for (int i = 0; i < 60; i++) {
            DUE.is("0 at first", x.element(0, i), 0);
        }
        DUE.is("row of none", x.row(0, 0, 0), 1);
        DUE.is("no place", x.put(0, 0, 1), -13);
    }

    private static void putAndElement() {
        SkinOfTeeth x = new SkinOfTeeth();
        long v = 0x123456789ABCDEF0L;
        long[] due = {(byte) v, (short) v, (int) v, v, 1};
        for (int sort = 0; sort < 5; sort++) {
            x.row(sort, sort, 2);
            DUE.is("put", x.put(sort, 1, v), 1);
            DUE.is("lowest bits", x.element(sort, 1), due[sort]);
            DUE.is("the one beside it", x.element(sort, 0), 0);
            DUE.is("put", x.put(sort, 1, 0), 1);
            DUE.is("0", x.element(sort, 1), 0);
            x.put(sort, 0, -1);
            DUE.is("-1", x.element(sort, 0), sort == 4 ? 1 : -1);
            x.put(sort, 0, 1L << 40);
            DUE.is("2 to the 40", x.element(sort, 0), sort == 3 ? 1L << 40 : sort == 4 ? 1 : 0);
            int s = sort;
            DUE.all("no place", -13, () -> x.put(s, 2, 1), () -> x.put(s, -1, 1), () -> x.put(s, Integer.MAX_VALUE, 1));
            DUE.all("no place", Long.MIN_VALUE, () -> x.element(s, 2), () -> x.element(s, -1));
        }
        DUE.all("put wrong", -1, () -> x.put(6, 0, 1), () -> x.put(-1, 0, 1));
        DUE.is("nothing", x.put(5, 0, 1), -11);
        x.body(0);
        x.keep(5, 0);
        DUE.is("a body", x.put(5, 0, 1), -12);
        DUE.is("a body, no place", x.put(5, 99, 1), -12);
        DUE.all("element refused", Long.MIN_VALUE, () -> x.element(5, 0), () -> x.element(6, 0), () -> x.element(-1, 0));
    }

    private static void shift() {
        SkinOfTeeth x = new SkinOfTeeth();
        DUE.is("both missing", x.shift(0, 0, 1, 0, 1), -11);
        x.row(0, 2, 5);
        for (int i = 0; i < 5; i++) {
            x.put(0, i, i + 1);
        }
        DUE.all("shift wrong", -1, () -> x.shift(6, 0, 0, 0, 1), () -> x.shift(0, 0, 6, 0, 1),
            () -> x.shift(-1, 0, 0, 0, 1), () -> x.shift(0, 0, -1, 0, 1), () -> x.shift(1, 0, 6, 0, 1));
        DUE.is("other missing", x.shift(0, 0, 1, 0, 1), -11);
        DUE.is("first missing", x.shift(1, 0, 0, 0, -1), -11);
        x.body(0);
        x.keep(2, 0);
        DUE.is("a body and nothing", x.shift(2, 0, 1, 0, 1), -11);
        DUE.all("a body", -12, () -> x.shift(2, 0, 0, 0, 1), () -> x.shift(0, 0, 2, 0, 1), () -> x.shift(2, 0, 2, 0, 0));
        x.row(1, 1, 5);
        DUE.is("unlike sorts", x.shift(0, 9, 1, 0, 1), -12);
        DUE.all("no place", -13, () -> x.shift(0, 0, 0, 0, -1), () -> x.shift(0, -1, 0, 0, 1),
            () -> x.shift(0, 0, 0, -1, 1), () -> x.shift(0, 3, 0, 0, 3), () -> x.shift(0, 0, 0, 3, 3),
            () -> x.shift(0, 6, 0, 0, 0), () -> x.shift(0, 0, 0, 6, 0), () -> x.shift(0, 1, 0, 0, Integer.MAX_VALUE),
            () -> x.shift(0, Integer.MAX_VALUE, 0, 0, 1), () -> x.shift(0, 0, 0, Integer.MAX_VALUE, 1));
        DUE.is("none at the end", x.shift(0, 5, 0, 5, 0), 0);
        DUE.is("upward in itself", x.shift(0, 0, 0, 1, 4), 4);
        elements(x, 0, 1, 1, 2, 3, 4);
        DUE.is("downward in itself", x.shift(0, 2, 0, 0, 3), 3);
        elements(x, 0, 2, 3, 4, 3, 4);
        x.row(1, 2, 3);
        DUE.is("to another", x.shift(0, 1, 1, 0, 3), 3);
        elements(x, 1, 3, 4, 3);
        elements(x, 0, 2, 3, 4, 3, 4);
    }

    private static void elements(SkinOfTeeth x, int shelf, int... due) {
        for (int i = 0; i < due.length; i++) {
            DUE.is("element " + i, x.element(shelf, i), due[i]);
        }
    }

    private static void taken() {
        SkinOfTeeth x = new SkinOfTeeth();
        for (int kind = 0; kind < 8; kind++) {
            x.body(kind);
        }
        for (int kind = 0; kind < 8; kind++) {
            x.keep(3, kind);
            for (int k = 0; k < 8; k++) {
                boolean under = false;
                for (int at = kind; at >= 0; at = ABOVE[at]) {
                    under |= at == k;
                }
                DUE.is("kind " + kind + " taken for " + k, x.taken(3, k), under ? kind : -12);
            }
        }
        DUE.all("taken wrong", -1, () -> x.taken(6, 0), () -> x.taken(-1, 0), () -> x.taken(3, 8), () -> x.taken(3, -1),
            () -> x.taken(0, 8));
        DUE.is("nothing", x.taken(0, 0), -11);
        x.row(0, 0, 1);
        DUE.is("a row", x.taken(0, 0), -12);
    }

    private static void count() {
        SkinOfTeeth x = new SkinOfTeeth();
        DUE.all("count wrong", -1, () -> x.count(-1), () -> x.count(6), () -> x.count(Integer.MIN_VALUE));
        x.person(0);
        x.person(1);
        x.mend(0, 8, 255);
        x.feed(1);
        x.feed(1);
        x.feed(1);
        x.body(0);
        x.body(0);
        x.body(0);
        x.body(0);
        x.act(0, 1, 1);
        int[] due = {2, 1, 3, 1, 4, 2};
        for (int i = 0; i < due.length; i++) {
            DUE.is("count " + i, x.count(i), due[i]);
        }
    }

    private static void constants() {
        DUE.is("BAD", SkinOfTeeth.BAD, -1);
        DUE.is("NOT", SkinOfTeeth.NOT, -2);
        DUE.is("FULL", SkinOfTeeth.FULL, -3);
        DUE.is("STATE", SkinOfTeeth.STATE, -5);
        DUE.is("VOID", SkinOfTeeth.VOID, -2000000000);
    }
}
