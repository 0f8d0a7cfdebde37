import java.util.Arrays;

/** Promises 31 to 40: each sentence that names a bound has a test of its own; its remark tells promise and sentence. */
public final class ShelfBoundTests {
    private static final int BAD = -1, FULL = -3;
    private static final int LOWEST = Integer.MIN_VALUE, HIGHEST = Integer.MAX_VALUE;
    private static final long NONE = Long.MIN_VALUE;
    /** Of KINDS 0 to 7. */
    private static final int[] ABOVE = {-1, 0, 0, 2, 1, 4, 0, 6};

    private ShelfBoundTests() {
    }

    public static void main(String[] args) {
        fiftyBodies();
        eightKinds();
        fourActs();
        actsThatWrap();
        noSuchBodyNoSuchAct();
        latestTraceOnly();
        longestTrace();
        traceOfEachAct();
        sixShelves();
        keptOrNothing();
        rowsOf0To60();
        sizeBelow0();
        fiveSorts();
        zeroAtFirst();
        lowestBits();
        booleans();
        firstAndLastElement();
        elementRefused();
        shiftAsTheyAllWere();
        shiftByEachSort();
        shiftNone();
        shiftFarNumbers();
        shiftRefused();
        takenForItsKindOrAbove();
        takenRefused();
        countsFromLeastToMost();
        Due.end();
    }

    private static AcrossOnFoot withBodies(int... kinds) {
        AcrossOnFoot x = new AcrossOnFoot();
        for (int kind : kinds) {
            x.body(kind);
        }
        return x;
    }

    // ---- promises 31 to 33

    /** 31: "BODIES 0 .. 49 are kept by call", "BAD, FULL". */
    private static void fiftyBodies() {
        AcrossOnFoot x = new AcrossOnFoot();
        for (int n = 0; n < 50; n++) {
            Due.is("34: not there yet", x.keep(0, n), BAD);
            Due.is("31: body " + n, x.body(n % 8), n);
            Due.is("31: so many", x.count(6), n + 1);
        }
        for (int kind = 0; kind <= 7; kind++) {
            Due.is("31: the fifty-first", x.body(kind), FULL);
        }
        Due.is("31: BAD goes ahead of FULL", x.body(8), BAD);
        Due.is("31: BAD goes ahead of FULL", x.body(-1), BAD);
        Due.is("31: fifty", x.count(6), 50);
        Due.is("34: there is no fifty-first", x.keep(0, 50), BAD);
        for (int n = 0; n < 50; n++) {
            x.keep(0, n);
            Due.is("39: its KIND", x.taken(0, 0), n % 8);
        }
    }

    /** 31: "A BODY of a KIND (0 .. 7)". */
    private static void eightKinds() {
        for (int kind = -3; kind <= 12; kind++) {
            AcrossOnFoot x = new AcrossOnFoot();
            boolean may = kind >= 0 && kind <= 7;
            Due.is("31: KIND " + kind, x.body(kind), may ? 0 : BAD);
            Due.is("31: so many", x.count(6), may ? 1 : 0);
        }
        Due.is("31: the lowest int", new AcrossOnFoot().body(LOWEST), BAD);
        Due.is("31: the highest int", new AcrossOnFoot().body(HIGHEST), BAD);
    }

    /** 32: "ACTS with x ...: 0 stands, 1 steps, 2 sweeps, 3 sinks; n its number": of BODY 0 and of BODY 49. */
    private static void fourActs() {
        for (int n : new int[] {0, 49}) {
            AcrossOnFoot x = new AcrossOnFoot();
            for (int k = 0; k <= n; k++) {
                x.body(0);
            }
            Due.is("32: stands", x.act(n, 0, 100), 100 + n);
            Due.is("32: steps", x.act(n, 1, 100), 2 * (100 + n));
            Due.is("32: sweeps", x.act(n, 2, 100), 100 ^ n);
            Due.is("32: sinks", x.act(n, 3, 100), 2 * (100 + n) - (1 ^ n));
            Due.is("32: act 4", x.act(n, 4, 100), 0);
            Due.is("32: act -1", x.act(n, -1, 100), 0);
            Due.is("32: the next BODY", x.act(n + 1, 0, 100), 0);
        }
    }

    /** 32: "x (an int that wraps)": each KIND's acts as those of Java's own classes in the model. */
    private static void actsThatWrap() {
        int[] xs = {0, 1, -1, HIGHEST, LOWEST, HIGHEST - 1, LOWEST + 1, 1 << 30, -(1 << 30), (1 << 30) - 1, 715827883};
        for (int kind = 0; kind <= 7; kind++) {
            for (int n : new int[] {0, 1, 48}) {
                AcrossOnFoot x = new AcrossOnFoot();
                Model model = new Model();
                for (int k = 0; k <= n; k++) {
                    x.body(k == n ? kind : 0);
                    model.body(k == n ? kind : 0);
                }
                for (int act = 0; act <= 3; act++) {
                    for (int v : xs) {
                        Due.is("32: KIND " + kind + ", act " + act + " with " + v, x.act(n, act, v), model.act(n, act, v));
                    }
                }
            }
        }
        AcrossOnFoot x = withBodies(0, 1, 3);
        Due.is("32: the highest and 1", x.act(1, 0, HIGHEST - 3), LOWEST);
        Due.is("32: twice the highest", x.act(0, 1, HIGHEST), -2);
        Due.is("32: twice the lowest", x.act(0, 1, LOWEST), 0);
        Due.is("32: x and 1 wraps", x.act(2, 1, HIGHEST), -4);
    }

    /** 32: "0, and no TRACE then: no such BODY, ACT". */
    private static void noSuchBodyNoSuchAct() {
        int[][] none = {
            {2, 0}, {-1, 0}, {50, 0}, {LOWEST, 0}, {HIGHEST, 0}, {0, 4}, {0, -1}, {1, LOWEST}, {1, HIGHEST}, {2, 4}, {-1, -1},
        };
        AcrossOnFoot x = withBodies(1, 5);
        for (int[] b : none) {
            Due.is("32: ten bodies", x.act(1, 3, 5) == 0 ? 0 : x.count(7), 10);
            Due.is("32: act(" + b[0] + ", " + b[1] + ", 5)", x.act(b[0], b[1], 5), 0);
            Due.is("40: no body ran", x.count(7), 0);
            Due.is("33: no TRACE", x.trace(0), BAD);
            Due.is("33: no TRACE", x.trace(9), BAD);
        }
        Due.is("32: no BODY at all", new AcrossOnFoot().act(0, 0, 5), 0);
    }

    /** 33: "THE TRACE: numbers of the bodies that ran in the latest act(), as they began". */
    private static void latestTraceOnly() {
        AcrossOnFoot x = withBodies(0, 5);
        Due.is("33: none yet", x.trace(0), BAD);
        x.act(1, 3, 5);
        Due.is("33: the tenth", x.trace(9), 1);
        x.act(0, 1, 5);
        int[] due = {10, 1};
        for (int i = 0; i < 2; i++) {
            Due.is("33: trace(" + i + ")", x.trace(i), due[i]);
        }
        for (int i = 2; i <= 10; i++) {
            Due.is("33: nothing of the one ahead, " + i, x.trace(i), BAD);
        }
        Due.is("40: two", x.count(7), 2);
    }

    /** 33, 40: "the first 24 are kept", "(all, kept or not)": ten are the most that run, and all are kept. */
    private static void longestTrace() {
        int most = 0;
        for (int kind = 0; kind <= 7; kind++) {
            for (int act = 0; act <= 3; act++) {
                AcrossOnFoot x = withBodies(kind);
                x.act(0, act, 1);
                most = Math.max(most, x.count(7));
                for (int i = 0; i < 26; i++) {
                    Due.holds("33: all are kept", x.trace(i) > 0 == i < x.count(7));
                }
            }
        }
        Due.is("40: ten are the most", most, 10);
        AcrossOnFoot x = withBodies(5);
        x.act(0, 3, 1);
        int[] due = {61, 50, 2, 10, 20, 1, 60, 11, 20, 1};
        for (int i = 0; i < due.length; i++) {
            Due.is("33: trace(" + i + ")", x.trace(i), due[i]);
        }
        for (int i : new int[] {-1, 10, 23, 24, 25, LOWEST, HIGHEST}) {
            Due.is("33: trace(" + i + ")", x.trace(i), BAD);
        }
    }

    /** 33: "BAD": behind the last and ahead of the first body of each act. */
    private static void traceOfEachAct() {
        int[][] most = {
            {1, 2, 1, 4}, {2, 3, 1, 5}, {1, 3, 1, 5}, {1, 4, 2, 7}, {2, 3, 1, 6}, {2, 3, 4, 10}, {2, 3, 1, 5}, {3, 6, 1, 8},
        };
        for (int kind = 0; kind <= 7; kind++) {
            for (int act = 0; act <= 3; act++) {
                AcrossOnFoot x = withBodies(kind);
                x.act(0, act, 1);
                Due.is("40: KIND " + kind + ", act " + act, x.count(7), most[kind][act]);
                Due.holds("33: the last", x.trace(most[kind][act] - 1) > 0);
                Due.is("33: behind the last", x.trace(most[kind][act]), BAD);
                Due.is("33: ahead of the first", x.trace(-1), BAD);
            }
        }
    }

    // ---- promises 34 and 35

    /** 34, 35: "SHELVES 0 .. 5": each holds what it was given. */
    private static void sixShelves() {
        AcrossOnFoot x = withBodies(0, 1, 2, 3, 4, 5);
        for (int shelf = 0; shelf <= 5; shelf++) {
            Due.is("34: SHELF " + shelf, x.keep(shelf, shelf), 1);
        }
        for (int shelf = 0; shelf <= 5; shelf++) {
            Due.is("39: SHELF " + shelf, x.taken(shelf, 0), shelf);
        }
        for (int shelf = 0; shelf <= 5; shelf++) {
            Due.is("35: SHELF " + shelf, x.row(shelf, 3, shelf + 1), 1);
            Due.is("36: its last element", x.put(shelf, shelf, 100 + shelf), 1);
        }
        for (int shelf = 0; shelf <= 5; shelf++) {
            Due.is("37: SHELF " + shelf, x.element(shelf, shelf), 100 + shelf);
            Due.is("37: behind it", x.element(shelf, shelf + 1), NONE);
        }
        for (int shelf : new int[] {-1, 6, 7, LOWEST, HIGHEST}) {
            Due.is("34: SHELF " + shelf, x.keep(shelf, 0), BAD);
            Due.is("34: SHELF " + shelf, x.keep(shelf, -1), BAD);
            Due.is("35: SHELF " + shelf, x.row(shelf, 0, 0), BAD);
            Due.is("36: SHELF " + shelf, x.put(shelf, 0, 0), BAD);
            Due.is("37: SHELF " + shelf, x.element(shelf, 0), NONE);
            Due.is("38: SHELF " + shelf, x.shift(shelf, 0, 0, 0, 0), BAD);
            Due.is("38: SHELF " + shelf, x.shift(0, 0, shelf, 0, 0), BAD);
            Due.is("39: SHELF " + shelf, x.taken(shelf, 0), BAD);
        }
    }

    /** 34: "A SHELF holds nothing (body -1), or a BODY: 1. BAD." */
    private static void keptOrNothing() {
        AcrossOnFoot x = withBodies(7, 6);
        x.row(0, 0, 3);
        for (int body : new int[] {2, -2, 50, LOWEST, HIGHEST}) {
            Due.is("34: body " + body, x.keep(0, body), BAD);
            Due.is("35: the ROW is there still", x.put(0, 2, 5), 1);
        }
        Due.is("34: the last", x.keep(0, 1), 1);
        Due.is("39: it is there", x.taken(0, 6), 6);
        Due.is("34: the first", x.keep(0, 0), 1);
        Due.is("39: it is there", x.taken(0, 7), 7);
        Due.is("34: on another SHELF, too", x.keep(5, 0), 1);
        Due.is("34: nothing", x.keep(0, -1), 1);
        Due.is("39: nothing is there", x.taken(0, 7), -11);
        Due.is("34: nothing again", x.keep(0, -1), 1);
        Due.is("39: the other SHELF holds it", x.taken(5, 7), 7);
        Due.is("31: the BODY is there still", x.count(6), 2);
        x.row(1, 2, 2);
        Due.is("34: nothing instead of a ROW", x.keep(1, -1), 1);
        Due.is("36: nothing is there", x.put(1, 0, 1), -11);
    }

    /** 35: "of 0 .. 60 elements", "BAD (sort, n above 60)". */
    private static void rowsOf0To60() {
        for (int sort = 0; sort <= 4; sort++) {
            for (int n : new int[] {0, 1, 2, 59, 60}) {
                AcrossOnFoot x = new AcrossOnFoot();
                Due.is("35: " + n + " of sort " + sort, x.row(3, sort, n), 1);
                Due.is("36: the last", x.put(3, n - 1, 1), n == 0 ? -13 : 1);
                Due.is("37: the last", x.element(3, n - 1), n == 0 ? NONE : 1);
                Due.is("36: behind it", x.put(3, n, 1), -13);
                Due.is("37: behind it", x.element(3, n), NONE);
            }
            for (int n : new int[] {61, 62, 100, HIGHEST}) {
                AcrossOnFoot x = new AcrossOnFoot();
                Due.is("35: " + n + " of sort " + sort, x.row(3, sort, n), BAD);
                Due.is("36: nothing is there", x.put(3, 0, 1), -11);
            }
        }
    }

    /** 35: "-14 a size below 0": behind BAD, and the SHELF holds what it held. */
    private static void sizeBelow0() {
        AcrossOnFoot x = new AcrossOnFoot();
        x.row(0, 1, 2);
        x.put(0, 1, 777);
        for (int n : new int[] {-1, -2, -60, -61, LOWEST}) {
            for (int sort = 0; sort <= 4; sort++) {
                Due.is("35: " + n, x.row(0, sort, n), -14);
            }
            Due.is("35: BAD goes ahead: sort 5", x.row(0, 5, n), BAD);
            Due.is("35: BAD goes ahead: sort -1", x.row(0, -1, n), BAD);
            Due.is("35: BAD goes ahead: SHELF 6", x.row(6, 0, n), BAD);
            Due.is("37: it is there still", x.element(0, 1), 777);
        }
    }

    /** 35: "a ROW: of 0 bytes, 1 shorts, 2 ints, 3 longs, 4 booleans": -1 and 5 are none. */
    private static void fiveSorts() {
        long v = 0x123456789abcdef0L;
        long[] due = {(byte) v, (short) v, (int) v, v, 1};
        for (int sort = -1; sort <= 5; sort++) {
            AcrossOnFoot x = new AcrossOnFoot();
            boolean may = sort >= 0 && sort <= 4;
            Due.is("35: sort " + sort, x.row(0, sort, 1), may ? 1 : BAD);
            Due.is("36: put", x.put(0, 0, v), may ? 1 : -11);
            Due.is("37: of sort " + sort, x.element(0, 0), may ? due[sort] : NONE);
        }
        Due.is("35: the lowest sort", new AcrossOnFoot().row(0, LOWEST, 1), BAD);
        Due.is("35: the highest sort", new AcrossOnFoot().row(0, HIGHEST, 1), BAD);
    }

    /** 35: "0 at first (false)": also where another ROW was ahead. */
    private static void zeroAtFirst() {
        for (int sort = 0; sort <= 4; sort++) {
            AcrossOnFoot x = new AcrossOnFoot();
            x.row(2, sort, 60);
            for (int i = 0; i < 60; i++) {
                Due.is("35: 0 at first", x.element(2, i), 0);
                x.put(2, i, 1);
            }
            Due.is("35: again", x.row(2, sort, 60), 1);
            for (int i = 0; i < 60; i++) {
                Due.is("35: 0 again", x.element(2, i), 0);
            }
            x.put(2, 59, 1);
            x.row(2, sort, 1);
            Due.is("37: shorter now", x.element(2, 59), NONE);
            x.row(2, (sort + 1) % 5, 60);
            Due.is("35: longer again", x.element(2, 59), 0);
        }
    }

    // ---- promises 36 and 37

    /** 36: "what is put in keeps its lowest bits". */
    private static void lowestBits() {
        for (int sort = 0; sort <= 3; sort++) {
            int bits = 8 << sort;
            for (long far : new long[] {0, 1L << bits - 1, bits == 64 ? 0 : 1L << bits, Long.MIN_VALUE, Long.MAX_VALUE}) {
                for (long near = -2; near <= 2; near++) {
                    long v = far + near;
                    AcrossOnFoot x = new AcrossOnFoot();
                    x.row(0, sort, 3);
                    Due.is("36: put " + v, x.put(0, 1, v), 1);
                    long due = v << 64 - bits >> 64 - bits;
                    Due.is("37: of " + bits + " bits", x.element(0, 1), due);
                    Due.is("37: the one ahead", x.element(0, 0), 0);
                    Due.is("37: the one behind", x.element(0, 2), 0);
                }
            }
        }
    }

    /** 36: "(a boolean: whether it is not 0; 1 or 0)". */
    private static void booleans() {
        AcrossOnFoot x = new AcrossOnFoot();
        x.row(0, 4, 1);
        for (int bit = 0; bit < 64; bit++) {
            Due.is("36: bit " + bit, x.put(0, 0, 1L << bit), 1);
            Due.is("37: it is not 0", x.element(0, 0), 1);
            x.put(0, 0, 0);
            Due.is("37: it is 0", x.element(0, 0), 0);
        }
        x.put(0, 0, -1);
        Due.is("37: -1 is not 0", x.element(0, 0), 1);
        x.put(0, 0, Long.MIN_VALUE);
        Due.is("37: the lowest is not 0", x.element(0, 0), 1);
    }

    /** 36, 37: "-13 a place that is not there": the first, the last and what is next to them. */
    private static void firstAndLastElement() {
        for (int length = 0; length <= 60; length += 12) {
            AcrossOnFoot x = new AcrossOnFoot();
            x.row(4, 2, length);
            for (int i : new int[] {-2, -1, 0, 1, length - 2, length - 1, length, length + 1, 60, LOWEST, HIGHEST}) {
                boolean is = i >= 0 && i < length;
                Due.is("36: " + i + " of " + length, x.put(4, i, 70 + i), is ? 1 : -13);
                Due.is("37: " + i + " of " + length, x.element(4, i), is ? 70 + i : NONE);
            }
        }
    }

    /** 36, 37: "BAD, -11, -12, -13": "-11 nothing is there where something is wanted; -12 it is of another kind". */
    private static void elementRefused() {
        AcrossOnFoot x = withBodies(0);
        x.keep(1, 0);
        x.row(2, 0, 3);
        int[][] rows = {
            // SHELF, i, answer of put
            {0, 0, -11}, {0, -1, -11}, {0, 60, -11}, {1, 0, -12}, {1, -1, -12}, {1, 60, -12}, {2, -1, -13}, {2, 3, -13},
            {6, 0, BAD}, {6, -1, BAD}, {-1, 3, BAD},
        };
        for (int[] row : rows) {
            Due.is("36: put(" + row[0] + ", " + row[1] + ", 1)", x.put(row[0], row[1], 1), row[2]);
            Due.is("37: element(" + row[0] + ", " + row[1] + ")", x.element(row[0], row[1]), NONE);
        }
        x.row(3, 3, 1);
        Due.is("36: the lowest long may be put", x.put(3, 0, Long.MIN_VALUE), 1);
        Due.is("37: and is answered", x.element(3, 0), Long.MIN_VALUE);
        x.put(3, 0, -11);
        Due.is("37: -11 is an element", x.element(3, 0), -11);
    }

    // ---- promise 38

    private static void fill(AcrossOnFoot x, int shelf, long[] row) {
        for (int i = 0; i < row.length; i++) {
            x.put(shelf, i, row[i]);
        }
    }

    private static long[] read(AcrossOnFoot x, int shelf, int length) {
        long[] row = new long[length];
        for (int i = 0; i < length; i++) {
            row[i] = x.element(shelf, i);
        }
        return row;
    }

    private static long[] counted(int length, int from) {
        long[] row = new long[length];
        for (int i = 0; i < length; i++) {
            row[i] = from + i;
        }
        return row;
    }

    /** 38: "n elements of a ROW from i on come to another one (or the same) from j on, as they all were before". */
    private static void shiftAsTheyAllWere() {
        for (int length = 0; length <= 4; length++) {
            for (int other = 0; other <= 4; other++) {
                for (int drawn = 0; drawn < 343; drawn++) {
                    shifts(length, other, drawn / 49 - 1, drawn / 7 % 7 - 1, drawn % 7 - 1, false);
                    if (length == other) {
                        shifts(length, other, drawn / 49 - 1, drawn / 7 % 7 - 1, drawn % 7 - 1, true);
                    }
                }
            }
        }
        shifts(60, 60, 0, 0, 60, false);
        shifts(60, 60, 0, 1, 59, true);
        shifts(60, 60, 1, 0, 59, true);
        shifts(60, 60, 0, 1, 60, true);
        shifts(60, 60, 1, 0, 60, true);
    }

    private static void shifts(int length, int otherLength, int i, int j, int n, boolean same) {
        AcrossOnFoot x = new AcrossOnFoot();
        long[] row = counted(length, 10);
        long[] other = same ? row : counted(otherLength, 50);
        x.row(0, 1, length);
        fill(x, 0, row);
        x.row(5, 1, otherLength);
        fill(x, 5, counted(otherLength, 50));
        boolean is = i >= 0 && j >= 0 && n >= 0 && i + n <= length && j + n <= otherLength;
        String call = "38: of " + length + " to " + otherLength + (same ? " (the same)" : "") + ": " + i + ", " + j + ", " + n;
        Due.is(call, x.shift(0, i, same ? 0 : 5, j, n), is ? n : -13);
        if (is) {
            System.arraycopy(row, i, other, j, n);
        }
        Due.holds(call + ": the one", Arrays.equals(read(x, 0, length), row));
        Due.holds(call + ": the other one",
            Arrays.equals(read(x, 5, otherLength), same ? counted(otherLength, 50) : other));
    }

    /** 38: "-12 (no ROWS, or of unlike sorts)": each sort goes to its like alone. */
    private static void shiftByEachSort() {
        for (int sort = 0; sort <= 4; sort++) {
            for (int other = 0; other <= 4; other++) {
                AcrossOnFoot x = new AcrossOnFoot();
                x.row(0, sort, 2);
                x.put(0, 1, 1);
                x.row(1, other, 2);
                Due.is("38: " + sort + " to " + other, x.shift(0, 1, 1, 0, 1), sort == other ? 1 : -12);
                Due.is("37: it came", x.element(1, 0), sort == other ? 1 : 0);
                Due.is("38: none of it, too", x.shift(0, 0, 1, 0, 0), sort == other ? 0 : -12);
            }
        }
    }

    /** 38: n of 0: from and to the end of a ROW, and of an empty one, and not behind it. */
    private static void shiftNone() {
        AcrossOnFoot x = new AcrossOnFoot();
        x.row(0, 0, 3);
        x.row(1, 0, 0);
        int[][] rows = {{0, 0, 0}, {3, 0, 0}, {4, 0, -13}, {-1, 0, -13}, {0, 1, -13}, {3, 1, -13}, {0, -1, -13}};
        for (int[] row : rows) {
            Due.is("38: none from " + row[0] + " to " + row[1], x.shift(0, row[0], 1, row[1], 0), row[2]);
            Due.is("38: none from " + row[1] + " to " + row[0], x.shift(1, row[1], 0, row[0], 0), row[2]);
        }
        Due.is("38: one of none", x.shift(1, 0, 0, 0, 1), -13);
        Due.is("38: one to none", x.shift(0, 0, 1, 0, 1), -13);
        Due.is("38: none of none", x.shift(1, 0, 1, 0, 0), 0);
    }

    /** 38: "-13 (n below 0, too)": the farthest numbers, whose sums wrap. */
    private static void shiftFarNumbers() {
        AcrossOnFoot x = new AcrossOnFoot();
        x.row(0, 2, 3);
        fill(x, 0, counted(3, 1));
        int[] far = {LOWEST, LOWEST + 1, -1, 4, HIGHEST - 2, HIGHEST - 1, HIGHEST};
        for (int v : far) {
            Due.is("38: from " + v, x.shift(0, v, 0, 0, 1), -13);
            Due.is("38: to " + v, x.shift(0, 0, 0, v, 1), -13);
            Due.is("38: n " + v, x.shift(0, 0, 0, 0, v), -13);
            Due.is("38: n " + v + " from 1", x.shift(0, 1, 0, 1, v), -13);
            for (int w : far) {
                Due.is("38: from " + v + ", n " + w, x.shift(0, v, 0, 0, w), -13);
                Due.is("38: to " + v + ", n " + w, x.shift(0, 0, 0, v, w), -13);
            }
        }
        Due.holds("38: nothing changed", Arrays.equals(read(x, 0, 3), counted(3, 1)));
    }

    /** 38: "BAD, -11 (either), -12 (no ROWS ...), -13": of several the one named first. */
    private static void shiftRefused() {
        AcrossOnFoot x = withBodies(0);
        x.row(0, 0, 3);
        x.row(1, 1, 3);
        x.keep(2, 0);
        int[][] rows = {
            // from SHELF, to SHELF, answer: 3 holds nothing, 2 a BODY, 6 is none
            {0, 0, -13}, {0, 1, -12}, {0, 2, -12}, {0, 3, -11}, {0, 6, BAD}, {1, 0, -12}, {2, 0, -12}, {2, 2, -12}, {2, 3, -11},
            {3, 0, -11}, {3, 2, -11}, {3, 3, -11}, {3, 6, BAD}, {6, 3, BAD}, {6, 6, BAD}, {-1, 2, BAD}, {2, -1, BAD},
        };
        for (int[] row : rows) {
            for (int n : new int[] {-1, 4}) {
                Due.is("38: from " + row[0] + " to " + row[1], x.shift(row[0], 0, row[1], 0, n), row[2]);
                Due.is("38: from " + row[0] + " to " + row[1], x.shift(row[0], -1, row[1], 9, n), row[2]);
            }
        }
    }

    // ---- promises 39 and 40

    /** 39: "taken for a BODY of KIND k (0 .. 7), or under it: its KIND". */
    private static void takenForItsKindOrAbove() {
        for (int kind = 0; kind <= 7; kind++) {
            AcrossOnFoot x = withBodies(0, kind);
            x.keep(3, 1);
            boolean[] is = new boolean[8];
            for (int k = kind; k >= 0; k = ABOVE[k]) {
                is[k] = true;
            }
            for (int k = 0; k <= 7; k++) {
                Due.is("39: KIND " + kind + " for " + k, x.taken(3, k), is[k] ? kind : -12);
            }
            Due.is("39: for KIND 8", x.taken(3, 8), BAD);
            Due.is("39: for KIND -1", x.taken(3, -1), BAD);
        }
    }

    /** 39: "BAD, -11, -12": of several the one named first. */
    private static void takenRefused() {
        AcrossOnFoot x = withBodies(0);
        x.keep(1, 0);
        for (int k : new int[] {-1, 8, LOWEST, HIGHEST}) {
            Due.is("39: BAD goes ahead of -11", x.taken(0, k), BAD);
            Due.is("39: a BODY", x.taken(1, k), BAD);
            Due.is("39: no SHELF", x.taken(6, k), BAD);
        }
        for (int sort = 0; sort <= 4; sort++) {
            x.row(2, sort, 0);
            for (int k = 0; k <= 7; k++) {
                Due.is("39: nothing", x.taken(0, k), -11);
                Due.is("39: a ROW", x.taken(2, k), -12);
            }
            Due.is("39: BAD goes ahead of -12", x.taken(2, 8), BAD);
        }
    }

    /** 40: "How many": none, and as many as there may be. */
    private static void countsFromLeastToMost() {
        int[] most = {6, 4, 8, 20, 120, 40, 50, 0};
        AcrossOnFoot none = new AcrossOnFoot();
        AcrossOnFoot full = Samples.full();
        for (int what = 0; what <= 7; what++) {
            Due.is("40: none, " + what, none.count(what), 0);
            Due.is("40: the most, " + what, full.count(what), most[what]);
        }
        for (int what : new int[] {-1, 8, 9, LOWEST, HIGHEST}) {
            Due.is("40: count(" + what + ")", none.count(what), BAD);
            Due.is("40: count(" + what + ")", full.count(what), BAD);
        }
        full.undo();
        Due.is("40: CHANGES that may be UNDONE", full.count(5), 39);
        full.redo();
        Due.is("40: CHANGES that may be UNDONE", full.count(5), 40);
        full.act(5, 3, 1);
        Due.is("40: bodies that ran", full.count(7), 10);
        full.act(0, 0, 1);
        Due.is("40: bodies that ran in the latest act()", full.count(7), 1);
    }
}
