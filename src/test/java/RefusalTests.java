import java.util.List;
import java.util.function.Supplier;

/**
 * Promises 2 to 40: of each number that a call is given, the least and the greatest that is taken, the next ones that
 * are refused and the farthest; and "what is answered so changes nothing": after each refused call the object answers
 * all that can be asked as one that was not asked so.
 */
public final class RefusalTests {
    private static final int BAD = -1, NOT = -2, FULL = -3, STATE = -5, VOID = -2000000000;
    private static final int LOWEST = Integer.MIN_VALUE, HIGHEST = Integer.MAX_VALUE;
    private static final List<String> SOME = Samples.answers(Samples.some());
    private static final List<String> ALL_FULL = Samples.answers(Samples.full());
    private static final List<String> NEW = Samples.answers(new AcrossOnFoot());

    private interface Ask {
        long of(AcrossOnFoot x);
    }

    private interface AskWith {
        long of(AcrossOnFoot x, int v);
    }

    private interface AskGroup {
        long of(AcrossOnFoot x, int ph, int gf);
    }

    private RefusalTests() {
    }

    public static void main(String[] args) {
        askingSeesEachChange();
        river();
        people();
        groups();
        placesAndHours();
        ranksAndCells();
        packedNumbers();
        signs();
        acts();
        shelves();
        refusedByRows();
        nothingIsMade();
        allIsFull();
        badGoesAhead();
        Due.end();
    }

    // ---- what is taken and what is refused

    private static void refused(String call, Supplier<AcrossOnFoot> made, List<String> untouched, Ask ask, long due) {
        AcrossOnFoot x = made.get();
        Due.is(call, ask.of(x), due);
        Due.alike(call + " changes nothing", Samples.answers(x), untouched);
    }

    private static void refused(String call, Ask ask, long due) {
        refused(call, Samples::some, SOME, ask, due);
    }

    private static void refusedByFull(String call, Ask ask, long due) {
        refused(call, Samples::full, ALL_FULL, ask, due);
    }

    private static void refusedByNew(String call, Ask ask, long due) {
        refused(call, AcrossOnFoot::new, NEW, ask, due);
    }

    private static void taken(String call, AskWith ask, int v, long refusal) {
        Due.holds(call + " takes " + v, ask.of(Samples.some(), v) != refusal);
    }

    /** The least, the greatest and those next to them, as a part of a number that is put together. */
    private static void part(String call, AskWith ask, int least, int greatest, long refusal) {
        taken(call, ask, least, refusal);
        taken(call, ask, greatest, refusal);
        for (int v : new int[] {least - 1, greatest + 1}) {
            refused(call + " with " + v, x -> ask.of(x, v), refusal);
        }
    }

    /** The same, and the farthest numbers. */
    private static void bound(String call, AskWith ask, int least, int greatest, long refusal) {
        part(call, ask, least, greatest, refusal);
        farthest(call, ask, refusal);
    }

    private static void farthest(String call, AskWith ask, long refusal) {
        for (int v : new int[] {LOWEST, LOWEST + 1, HIGHEST - 1, HIGHEST}) {
            refused(call + " with " + v, x -> ask.of(x, v), refusal);
        }
    }

    /** A number that does not matter. */
    private static void free(String call, AskWith ask, long due) {
        for (int v : new int[] {LOWEST, -1, 0, 48, HIGHEST}) {
            Due.is(call + " with " + v, ask.of(Samples.some(), v), due);
        }
    }

    /** Else "changes nothing" would tell nothing: what is asked shows each thing that a call may change. */
    private static void askingSeesEachChange() {
        seen("feed", x -> x.feed(1, '/'));
        seen("feed of another sign", x -> x.feed(1, '1'));
        seen("place", x -> x.place());
        seen("law", x -> x.law());
        seen("mend of DEPTH", x -> x.mend(0, 2, 0, 30));
        seen("mend of PACE", x -> x.mend(1, 0, 1, 29));
        seen("mend of BED", x -> x.mend(0, 0, 2, 9));
        seen("force", x -> x.force(1));
        seen("force of none", x -> x.force(-1));
        seen("sky of RAIN", x -> x.sky(0, 13));
        seen("sky of ICE", x -> x.sky(1, 8));
        seen("person", x -> x.person(7018, 420));
        seen("set of LEGS", x -> x.set(1, 0, 0));
        seen("set of PACK", x -> x.set(2, 1, 1));
        seen("notch", x -> x.notch(21, 0));
        seen("notches", x -> x.notches(Samples.BYTES, 0, 1));
        seen("undo", x -> x.undo());
        seen("redo", x -> x.redo());
        seen("body", x -> x.body(0));
        seen("act", x -> x.act(0, 0, 0));
        seen("keep of another BODY", x -> x.keep(Samples.BODY, 2));
        seen("keep of nothing", x -> x.keep(Samples.BODY, -1));
        seen("row", x -> x.row(Samples.NOTHING, 0, 0));
        seen("row of another sort", x -> x.row(Samples.SHORTS, 2, 3));
        seen("put", x -> x.put(Samples.LONGS, 1, 0));
        seen("shift", x -> x.shift(Samples.BYTES, 0, Samples.BYTES, 4, 1));
    }

    private static void seen(String call, Ask ask) {
        AcrossOnFoot x = Samples.some();
        ask.of(x);
        Due.holds("asking sees " + call, !Samples.answers(x).equals(SOME));
    }

    // ---- promises 2 to 9

    private static void river() {
        bound("2: feed, n (1 .. 4)", (x, v) -> x.feed(v, '1'), 1, 4, BAD);
        free("2: feed, v", (x, v) -> x.feed(1, v), 6);
        bound("4: cell, a PLACE", (x, v) -> x.cell(v, 0, 0, 0), 0, Samples.PLACES - 1, BAD);
        bound("4: cell, a PLACE, CELL -1", (x, v) -> x.cell(v, -1, 0, 0), 0, Samples.PLACES - 1, BAD);
        bound("4: cell, CELL i of three", (x, v) -> x.cell(0, v, 0, 0), -1, 2, BAD);
        bound("4: cell, CELL i of one", (x, v) -> x.cell(1, v, 1, 0), -1, 0, BAD);
        bound("4: cell, CELL i at an HOUR", (x, v) -> x.cell(0, v, 3, 30), 0, 2, BAD);
        bound("4: cell, what", (x, v) -> x.cell(0, 2, v, 30), 0, 4, BAD);
        bound("4: cell, what of CELL -1", (x, v) -> x.cell(0, -1, v, 30), 0, 1, BAD);
        bound("4: cell, an HOUR of the depth", (x, v) -> x.cell(0, 0, 3, v), 0, 47, BAD);
        bound("4: cell, an HOUR of the pace", (x, v) -> x.cell(0, 0, 4, v), 0, 47, BAD);
        free("4: cell, the hour of DEPTH", (x, v) -> x.cell(0, 2, 0, v), 0);
        free("4: cell, the hour of PACE", (x, v) -> x.cell(0, 2, 1, v), 2);
        free("4: cell, the hour of BED", (x, v) -> x.cell(0, 2, 2, v), 1);
        free("4: cell, the hour of how many CELLS", (x, v) -> x.cell(0, -1, 0, v), 3);
        free("4: cell, the hour of BELOW", (x, v) -> x.cell(0, -1, 1, v), 7);
        bound("5: mend, a PLACE", (x, v) -> x.mend(v, 0, 0, 6), 0, Samples.PLACES - 1, BAD);
        bound("5: mend, CELL i of three", (x, v) -> x.mend(0, v, 0, 6), 0, 2, BAD);
        bound("5: mend, CELL i of one", (x, v) -> x.mend(1, v, 0, 6), 0, 0, BAD);
        bound("5: mend, what", (x, v) -> x.mend(0, 0, v, 6), 0, 2, BAD);
        bound("5: mend, DEPTH", (x, v) -> x.mend(0, 0, 0, v), 0, 30, BAD);
        bound("5: mend, PACE", (x, v) -> x.mend(0, 0, 1, v), 0, 30, BAD);
        bound("5: mend, BED", (x, v) -> x.mend(0, 0, 2, v), 0, 9, BAD);
        bound("7: force, a LAW (-1: none)", (x, v) -> x.force(v), -1, Samples.LAWS - 1, -2);
        bound("8: sky, what", (x, v) -> x.sky(v, 5), 0, 1, BAD);
        bound("8: sky, RAIN", (x, v) -> x.sky(0, v), 0, 99, BAD);
        bound("8: sky, ICE", (x, v) -> x.sky(1, v), 0, 99, BAD);
        bound("9: rise, a LAW", (x, v) -> x.rise(v, 0), 0, Samples.LAWS - 1, VOID);
        bound("9: rise, an HOUR", (x, v) -> x.rise(0, v), 0, 47, VOID);
    }

    // ---- promises 10 to 12

    private static void people() {
        part("10: person, WEIGHT", (x, v) -> x.person(100 * v + 18, 420), 30, 120, BAD);
        part("10: person, HEIGHT", (x, v) -> x.person(7000 + v, 420), 10, 22, BAD);
        part("10: person, LEGS", (x, v) -> x.person(7018, 100 * v + 20), 0, 9, BAD);
        part("10: person, PACK without LEGS", (x, v) -> x.person(7018, v), 0, 40, BAD);
        part("10: person, PACK", (x, v) -> x.person(7018, 400 + v), 0, 40, BAD);
        farthest("10: person, wh", (x, v) -> x.person(v, 420), BAD);
        farthest("10: person, lp", (x, v) -> x.person(7018, v), BAD);
        refused("10: person(-7018, 420)", x -> x.person(-7018, 420), BAD);
        refused("10: person(7018, -420)", x -> x.person(7018, -420), BAD);
        bound("11: set, a PERSON", (x, v) -> x.set(v, 0, 5), 0, Samples.PEOPLE - 1, BAD);
        bound("11: set, what", (x, v) -> x.set(1, v, 5), 0, 1, BAD);
        bound("11: set, LEGS", (x, v) -> x.set(1, 0, v), 0, 9, BAD);
        bound("11: set, PACK", (x, v) -> x.set(1, 1, v), 0, 40, BAD);
        bound("12: of, a PERSON", (x, v) -> x.of(v, 0), 0, Samples.PEOPLE - 1, BAD);
        bound("12: of, what", (x, v) -> x.of(0, v), 0, 3, BAD);
    }

    // ---- promises 13 to 24: GROUPS, PLACES and HOURS

    private static void groups() {
        group("13: margin", (x, ph, gf) -> x.margin(ph, gf, 0, 0), VOID);
        group("14: over", (x, ph, gf) -> x.over(ph, gf, 0), VOID);
        group("15: order", (x, ph, gf) -> x.order(ph, gf, 0), VOID);
        group("16: best", (x, ph, gf) -> x.best(gf, 747, 0), VOID, 1, 0);
        group("17: gusts", (x, ph, gf) -> x.gusts(ph, gf, 1, 101, 0), BAD);
        group("18: await", (x, ph, gf) -> x.await(ph, gf), BAD);
        group("20: midst", (x, ph, gf) -> x.midst(ph, gf, 1, 0), BAD);
        group("21: line", (x, ph, gf) -> x.line(ph / 100, gf), VOID);
        group("22: wall", (x, ph, gf) -> x.wall(gf, 0), VOID, 1, 0);
        group("23: roped", (x, ph, gf) -> x.roped(ph, gf, 0), BAD);
    }

    private static void group(String call, AskGroup ask, long refusal) {
        group(call, ask, refusal, 10, 0);
        group(call, ask, refusal, 10, 3);
        part(call + ", a FORM", (x, v) -> ask.of(x, 5, 310 + v), 0, 3, refusal);
        part(call + ", a FORM of one", (x, v) -> ask.of(x, 5, 10 + v), 0, 3, refusal);
        for (int form = 4; form <= 9; form++) {
            int gf = 120 + form;
            refused(call + ", gf " + gf, x -> ask.of(x, 5, gf), refusal);
        }
    }

    /** GROUPS of three PEOPLE: of 1 to 3 of them, with nobody who is not there, and nobody twice. */
    private static void group(String call, AskGroup ask, long refusal, int times, int form) {
        part(call + ", the only digit", (x, v) -> ask.of(x, 5, times * v + form), 1, 3, refusal);
        for (int digits : new int[] {12, 21, 13, 31, 23, 32, 123, 132, 213, 231, 312, 321}) {
            taken(call + ", digits", (x, v) -> ask.of(x, 5, times * v + form), digits, refusal);
        }
        int[] none = {
            0, -1, -12, 10, 20, 30, 102, 201, 120, 11, 22, 33, 112, 121, 211, 232, 14, 41, 124, 412, 142, 9, 19, 91,
            1231, 1234, 12312, 12345, 123123, 100000, 1000001, 12345678, HIGHEST / 10, LOWEST / 10,
        };
        for (int digits : none) {
            refused(call + ", digits " + digits, x -> ask.of(x, 5, times * digits + form), refusal);
        }
        for (int gf : new int[] {LOWEST, LOWEST + 1, -123, -10, -1, HIGHEST}) {
            refused(call + " with " + gf, x -> ask.of(x, 5, gf), refusal);
        }
    }

    private static void placesAndHours() {
        placeAndHour("13: margin", (x, ph) -> x.margin(ph, 120, 0, 0), VOID);
        placeAndHour("14: over", (x, ph) -> x.over(ph, 120, 0), VOID);
        placeAndHour("15: order", (x, ph) -> x.order(ph, 120, 0), VOID);
        placeAndHour("17: gusts", (x, ph) -> x.gusts(ph, 120, 1, 101, 0), BAD);
        placeAndHour("18: await", (x, ph) -> x.await(ph, 120), BAD);
        placeAndHour("19: mustNot", (x, ph) -> x.mustNot(ph), BAD);
        placeAndHour("20: midst", (x, ph) -> x.midst(ph, 120, 1, 0), BAD);
        placeAndHour("23: roped", (x, ph) -> x.roped(ph, 120, 0), BAD);
        placeAndHour("24: stick", (x, ph) -> x.stick(ph, 11), BAD);
        bound("21: line, a PLACE", (x, v) -> x.line(v, 120), 0, Samples.PLACES - 1, VOID);
    }

    private static void placeAndHour(String call, AskWith ask, long refusal) {
        part(call + ", an HOUR at PLACE 0", ask, 0, 47, refusal);
        part(call + ", an HOUR at PLACE 1", (x, v) -> ask.of(x, 100 + v), 0, 47, refusal);
        part(call + ", a PLACE", (x, v) -> ask.of(x, 100 * v), 0, Samples.PLACES - 1, refusal);
        part(call + ", a PLACE at HOUR 47", (x, v) -> ask.of(x, 100 * v + 47), 0, Samples.PLACES - 1, refusal);
        for (int ph : new int[] {99, 199, 600, 1000000, -47, -99, -147}) {
            refused(call + " with " + ph, x -> ask.of(x, ph), refusal);
        }
        farthest(call, ask, refusal);
    }

    private static void ranksAndCells() {
        rankAndCell("13: margin", (x, v) -> x.margin(5, 210, v, 0), (x, v) -> x.margin(105, 2133, v, 0), VOID);
        rankAndCell("23: roped", (x, v) -> x.roped(5, 210, v), (x, v) -> x.roped(105, 2133, v), BAD);
        bound("13: margin, what", (x, v) -> x.margin(5, 120, 101, v), 0, 2, VOID);
    }

    /** Two in three CELLS, three in one. */
    private static void rankAndCell(String call, AskWith two, AskWith three, long refusal) {
        part(call + ", RANK 0, the CELL", two, 0, 2, refusal);
        part(call + ", RANK 1, the CELL", (x, v) -> two.of(x, 100 + v), 0, 2, refusal);
        part(call + ", the RANK of two", (x, v) -> two.of(x, 100 * v), 0, 1, refusal);
        part(call + ", the RANK of two, CELL 2", (x, v) -> two.of(x, 100 * v + 2), 0, 1, refusal);
        part(call + ", the RANK of three", (x, v) -> three.of(x, 100 * v), 0, 2, refusal);
        part(call + ", RANK 2, the CELL of one", (x, v) -> three.of(x, 200 + v), 0, 0, refusal);
        for (int ki : new int[] {99, 199, 500, -100, -200}) {
            refused(call + " with ki " + ki, x -> two.of(x, ki), refusal);
        }
        farthest(call + ", ki", two, refusal);
    }

    /** The other numbers of promises 14 to 24. */
    private static void packedNumbers() {
        bound("14: over, what", (x, v) -> x.over(5, 120, v), 0, 2, VOID);
        bound("15: order, what", (x, v) -> x.order(5, 120, v), 0, 1, VOID);
        bound("16: best, what", (x, v) -> x.best(12, 747, v), 0, 1, VOID);
        bound("16: best, what without such HOURS", (x, v) -> x.best(12, 4, v), 0, 1, VOID);
        part("16: best, to an HOUR", (x, v) -> x.best(12, 700 + v, 0), 7, 47, VOID);
        part("16: best, to an HOUR from 0 on", (x, v) -> x.best(12, v, 0), 0, 47, VOID);
        part("16: best, from an HOUR", (x, v) -> x.best(12, 100 * v + 47, 0), 0, 47, VOID);
        part("16: best, from an HOUR to 20", (x, v) -> x.best(12, 100 * v + 20, 0), 0, 20, VOID);
        refused("16: best, 4848", x -> x.best(12, 4848, 0), VOID);
        refused("16: best, 99", x -> x.best(12, 99, 0), VOID);
        farthest("16: best, fromTo", (x, v) -> x.best(12, v, 0), VOID);
        part("17: gusts, n (1 .. 50)", (x, v) -> x.gusts(5, 120, 7, 100 * v + 20, 0), 1, 50, BAD);
        part("17: gusts, G (1 .. 20), once", (x, v) -> x.gusts(5, 120, 7, 100 + v, 0), 1, 20, BAD);
        part("17: gusts, G (1 .. 20), fifty times", (x, v) -> x.gusts(5, 120, 7, 5000 + v, 0), 1, 20, BAD);
        farthest("17: gusts, ng", (x, v) -> x.gusts(5, 120, 7, v, 0), BAD);
        refused("17: gusts, ng -101", x -> x.gusts(5, 120, 7, -101, 0), BAD);
        bound("17: gusts, what", (x, v) -> x.gusts(5, 120, 7, 101, v), 0, 1, BAD);
        bound("20: midst, t (1 .. 60)", (x, v) -> x.midst(5, 120, v, 0), 1, 60, BAD);
        bound("20: midst, t (1 .. 60) of BACK", (x, v) -> x.midst(5, 120, v, 1), 1, 60, BAD);
        bound("20: midst, what", (x, v) -> x.midst(5, 120, 30, v), 0, 1, BAD);
        bound("22: wall, what", (x, v) -> x.wall(12, v), 0, 1, VOID);
        part("24: stick, y (1 .. 99) in 1 breath", (x, v) -> x.stick(5, 10 * v + 1), 1, 99, BAD);
        part("24: stick, y (1 .. 99) in 9 breaths", (x, v) -> x.stick(5, 10 * v + 9), 1, 99, BAD);
        part("24: stick, b (1 .. 9) for 1 yard", (x, v) -> x.stick(5, 10 + v), 1, 9, BAD);
        part("24: stick, b (1 .. 9) for 99 yards", (x, v) -> x.stick(5, 990 + v), 1, 9, BAD);
        farthest("24: stick, yb", (x, v) -> x.stick(5, v), BAD);
        refused("24: stick, yb -11", x -> x.stick(5, -11), BAD);
    }

    // ---- promises 25 to 30

    private static void signs() {
        bound("25: notch, an HOUR behind 20", (x, v) -> x.notch(v, 0), 21, 47, BAD);
        bound("25: notch, a RISE", (x, v) -> x.notch(47, v), -20, 60, BAD);
        bound("26: notches, a SHELF", (x, v) -> x.notches(v, 0, 1), 0, 5, BAD);
        bound("26: notches, n (1 .. 20)", (x, v) -> x.notches(Samples.BYTES, 0, v), 1, 20, BAD);
        bound("26: notches, n (1 .. 20) of a missing ROW", (x, v) -> x.notches(Samples.NOTHING, 0, v), 1, 20, BAD);
        bound("27: off, a LAW", (x, v) -> x.off(v), 0, Samples.LAWS - 1, BAD);
    }

    // ---- promises 31 to 33

    private static void acts() {
        bound("31: body, a KIND", (x, v) -> x.body(v), 0, 7, BAD);
        bound("33: trace, i", (x, v) -> x.trace(v), 0, Samples.RAN - 1, BAD);
        for (int body : new int[] {-1, Samples.BODIES, 50, LOWEST, HIGHEST}) {
            noSuchAct(body, 0);
        }
        for (int act : new int[] {-1, 4, 5, LOWEST, HIGHEST}) {
            noSuchAct(0, act);
            noSuchAct(Samples.BODIES - 1, act);
        }
        for (int body : new int[] {0, Samples.BODIES - 1}) {
            for (int act : new int[] {0, 3}) {
                AcrossOnFoot x = Samples.some();
                x.act(body, act, 5);
                Due.holds("32: act(" + body + ", " + act + ", 5) runs", x.count(7) > 0);
            }
        }
    }

    /** "0, and no TRACE then: no such BODY, ACT": all else is as after an act() whose trace is empty. */
    private static void noSuchAct(int body, int act) {
        String call = "32: act(" + body + ", " + act + ", 5)";
        AcrossOnFoot x = Samples.some();
        Due.is(call, x.act(body, act, 5), 0);
        Due.is(call + " leaves no trace", x.trace(0), BAD);
        Due.is(call + " runs nothing", x.count(7), 0);
        x.act(1, 3, 5);
        Due.alike(call + " changes nothing else", Samples.answers(x), SOME);
    }

    // ---- promises 34 to 40

    private static void shelves() {
        bound("34: keep, a SHELF", (x, v) -> x.keep(v, 0), 0, 5, BAD);
        bound("34: keep, a BODY (-1: nothing)", (x, v) -> x.keep(0, v), -1, Samples.BODIES - 1, BAD);
        bound("35: row, a SHELF", (x, v) -> x.row(v, 0, 3), 0, 5, BAD);
        bound("35: row, a sort", (x, v) -> x.row(1, v, 3), 0, 4, BAD);
        for (int n : new int[] {61, 62, HIGHEST}) {
            refused("35: row of " + n, x -> x.row(1, 0, n), BAD);
        }
        for (int n : new int[] {-1, -2, LOWEST}) {
            refused("35: row of " + n, x -> x.row(1, 0, n), -14);
        }
        taken("35: row, elements", (x, v) -> x.row(1, 0, v), 0, -14);
        taken("35: row, elements", (x, v) -> x.row(1, 0, v), 60, BAD);
        bound("36: put, a SHELF", (x, v) -> x.put(v, 0, 1), 0, 5, BAD);
        for (int shelf : new int[] {-1, 6, LOWEST, HIGHEST}) {
            refused("37: element on SHELF " + shelf, x -> x.element(shelf, 0), Long.MIN_VALUE);
        }
        for (int shelf = Samples.BYTES; shelf <= Samples.BOOLEANS; shelf++) {
            int row = shelf;
            int last = Samples.LENGTHS[shelf] - 1;
            bound("36: put, element i on SHELF " + row, (x, v) -> x.put(row, v, 1), 0, last, -13);
            bound("37: element i on SHELF " + row, (x, v) -> x.element(row, v), 0, last, Long.MIN_VALUE);
        }
        bound("38: shift, a SHELF", (x, v) -> x.shift(v, 0, 1, 0, 1), 0, 5, BAD);
        bound("38: shift, another SHELF", (x, v) -> x.shift(1, 0, v, 0, 1), 0, 5, BAD);
        bound("38: shift, from i on, one", (x, v) -> x.shift(1, v, 1, 0, 1), 0, 4, -13);
        bound("38: shift, from i on, three", (x, v) -> x.shift(1, v, 1, 0, 3), 0, 2, -13);
        bound("38: shift, from i on, none", (x, v) -> x.shift(1, v, 1, 0, 0), 0, 5, -13);
        bound("38: shift, from j on, one", (x, v) -> x.shift(1, 0, 1, v, 1), 0, 4, -13);
        bound("38: shift, from j on, three", (x, v) -> x.shift(1, 0, 1, v, 3), 0, 2, -13);
        bound("38: shift, from j on, none", (x, v) -> x.shift(1, 0, 1, v, 0), 0, 5, -13);
        bound("38: shift, n from 0 on to 0 on", (x, v) -> x.shift(1, 0, 1, 0, v), 0, 5, -13);
        bound("38: shift, n from 2 on to 0 on", (x, v) -> x.shift(1, 2, 1, 0, v), 0, 3, -13);
        bound("38: shift, n from 0 on to 2 on", (x, v) -> x.shift(1, 0, 1, 2, v), 0, 3, -13);
        bound("39: taken, a SHELF", (x, v) -> x.taken(v, 0), 0, 5, BAD);
        bound("39: taken, a KIND", (x, v) -> x.taken(0, v), 0, 7, BAD);
        bound("40: count, what", (x, v) -> x.count(v), 0, 7, BAD);
    }

    /** The host's refusals -11 and -12, by each thing that may be on a SHELF. */
    private static void refusedByRows() {
        refused("26: notches from a BODY", x -> x.notches(Samples.BODY, 0, 1), -12);
        refused("26: notches from a ROW of shorts", x -> x.notches(Samples.SHORTS, 0, 1), -12);
        refused("26: notches from a ROW of longs", x -> x.notches(Samples.LONGS, 0, 1), -12);
        refused("26: notches from a ROW of booleans", x -> x.notches(Samples.BOOLEANS, 0, 1), -12);
        refused("26: no notches from a SHELF that holds nothing", x -> x.notches(Samples.NOTHING, 0, 1), 0);
        refused("26: no notches with i below 0", x -> x.notches(Samples.BYTES, -1, 1), 0);
        refused("36: put on nothing", x -> x.put(Samples.NOTHING, 0, 1), -11);
        refused("36: put on a BODY", x -> x.put(Samples.BODY, 0, 1), -12);
        refused("37: element of nothing", x -> x.element(Samples.NOTHING, 0), Long.MIN_VALUE);
        refused("37: element of a BODY", x -> x.element(Samples.BODY, 0), Long.MIN_VALUE);
        refused("38: shift from nothing", x -> x.shift(Samples.NOTHING, 0, Samples.BYTES, 0, 1), -11);
        refused("38: shift to nothing", x -> x.shift(Samples.BYTES, 0, Samples.NOTHING, 0, 1), -11);
        refused("38: shift from a BODY", x -> x.shift(Samples.BODY, 0, Samples.BYTES, 0, 1), -12);
        refused("38: shift to a BODY", x -> x.shift(Samples.BYTES, 0, Samples.BODY, 0, 1), -12);
        refused("38: shift from a BODY to it", x -> x.shift(Samples.BODY, 0, Samples.BODY, 0, 1), -12);
        for (int shelf = Samples.BYTES; shelf <= Samples.BOOLEANS; shelf++) {
            for (int other = Samples.BYTES; other <= Samples.BOOLEANS; other++) {
                int from = shelf;
                int to = other;
                if (from != to) {
                    refused("38: shift from SHELF " + from + " to " + to, x -> x.shift(from, 0, to, 0, 1), -12);
                }
            }
        }
        refused("39: nothing taken", x -> x.taken(Samples.NOTHING, 0), -11);
        refused("39: a ROW taken", x -> x.taken(Samples.BYTES, 0), -12);
        refused("39: ROPED taken for WEDGED", x -> x.taken(Samples.BODY, 3), -12);
    }

    // ---- the empty and the full

    private static void nothingIsMade() {
        refusedByNew("3: place() of an empty tape", x -> x.place(), -100);
        refusedByNew("4: cell(0, 0, 0, 0)", x -> x.cell(0, 0, 0, 0), BAD);
        refusedByNew("4: cell(0, -1, 0, 0)", x -> x.cell(0, -1, 0, 0), BAD);
        refusedByNew("5: mend(0, 0, 0, 0)", x -> x.mend(0, 0, 0, 0), BAD);
        refusedByNew("6: law() of an empty tape", x -> x.law(), -100);
        refusedByNew("7: force(0)", x -> x.force(0), -2);
        refusedByNew("9: rise(0, 0)", x -> x.rise(0, 0), VOID);
        refusedByNew("11: set(0, 0, 0)", x -> x.set(0, 0, 0), BAD);
        refusedByNew("12: of(0, 0)", x -> x.of(0, 0), BAD);
        refusedByNew("13: margin(0, 10, 0, 0)", x -> x.margin(0, 10, 0, 0), VOID);
        refusedByNew("14: over(0, 10, 0)", x -> x.over(0, 10, 0), VOID);
        refusedByNew("15: order(0, 10, 0)", x -> x.order(0, 10, 0), VOID);
        refusedByNew("16: best(1, 747, 0)", x -> x.best(1, 747, 0), VOID);
        refusedByNew("17: gusts(0, 10, 1, 101, 0)", x -> x.gusts(0, 10, 1, 101, 0), BAD);
        refusedByNew("18: await(0, 10)", x -> x.await(0, 10), BAD);
        refusedByNew("19: mustNot(0)", x -> x.mustNot(0), BAD);
        refusedByNew("20: midst(0, 10, 1, 0)", x -> x.midst(0, 10, 1, 0), BAD);
        refusedByNew("21: line(0, 10)", x -> x.line(0, 10), VOID);
        refusedByNew("22: wall(1, 0)", x -> x.wall(1, 0), VOID);
        refusedByNew("23: roped(0, 10, 0)", x -> x.roped(0, 10, 0), BAD);
        refusedByNew("24: stick(0, 11)", x -> x.stick(0, 11), BAD);
        for (int hour : new int[] {-1, 48, LOWEST, HIGHEST}) {
            refusedByNew("25: notch(" + hour + ", 0)", x -> x.notch(hour, 0), BAD);
        }
        refusedByNew("26: notches(0, 0, 1)", x -> x.notches(0, 0, 1), 0);
        refusedByNew("27: off(0)", x -> x.off(0), BAD);
        refusedByNew("28: fit()", x -> x.fit(), STATE);
        refusedByNew("29: undo()", x -> x.undo(), STATE);
        refusedByNew("30: redo()", x -> x.redo(), STATE);
        refusedByNew("32: act(0, 0, 1)", x -> x.act(0, 0, 1), 0);
        refusedByNew("33: trace(0)", x -> x.trace(0), BAD);
        refusedByNew("34: keep(0, 0)", x -> x.keep(0, 0), BAD);
        refusedByNew("36: put(0, 0, 1)", x -> x.put(0, 0, 1), -11);
        refusedByNew("37: element(0, 0)", x -> x.element(0, 0), Long.MIN_VALUE);
        refusedByNew("38: shift(0, 0, 1, 0, 0)", x -> x.shift(0, 0, 1, 0, 0), -11);
        refusedByNew("39: taken(0, 0)", x -> x.taken(0, 0), -11);
    }

    private static void allIsFull() {
        for (int n = 1; n <= 4; n++) {
            int bytes = n;
            refusedByFull("2: feed(" + n + ", 'h') to a full tape", x -> x.feed(bytes, 'h'), FULL);
        }
        refusedByFull("3: place()", x -> x.place(), FULL);
        refusedByFull("6: law()", x -> x.law(), FULL);
        refusedByFull("10: person(7018, 420)", x -> x.person(7018, 420), FULL);
        refusedByFull("25: notch(20, 0)", x -> x.notch(20, 0), FULL);
        refusedByFull("31: body(0)", x -> x.body(0), FULL);
        refusedByFull("30: redo()", x -> x.redo(), STATE);
    }

    /** "Answers, of several the one named first". */
    private static void badGoesAhead() {
        refusedByFull("2: feed(0, 1): BAD, FULL", x -> x.feed(0, 1), BAD);
        refusedByFull("2: feed(5, 1): BAD, FULL", x -> x.feed(5, 1), BAD);
        refusedByFull("10: person(2918, 420): BAD, FULL", x -> x.person(2918, 420), BAD);
        refusedByFull("10: person(7018, 1000): BAD, FULL", x -> x.person(7018, 1000), BAD);
        refusedByFull("25: notch(19, 0): BAD, FULL", x -> x.notch(19, 0), BAD);
        refusedByFull("25: notch(48, 0): BAD, FULL", x -> x.notch(48, 0), BAD);
        refusedByFull("25: notch(20, 61): BAD, FULL", x -> x.notch(20, 61), BAD);
        refusedByFull("31: body(8): BAD, FULL", x -> x.body(8), BAD);
        refusedByFull("31: body(-1): BAD, FULL", x -> x.body(-1), BAD);
        refused("16: best(4, 4, 0): VOID, NOT", x -> x.best(4, 4, 0), VOID);
        refused("16: best(1, 4, 0): NOT", x -> x.best(1, 4, 0), NOT);
        refused("18: await(48, 10): BAD, NOT", x -> x.await(48, 10), BAD);
        refused("18: await(44, 10): NOT", x -> x.await(44, 10), NOT);
        refused("26: notches(6, -1, 1): BAD, 0", x -> x.notches(6, -1, 1), BAD);
        refused("26: notches from a BODY, n 21: BAD, -12", x -> x.notches(Samples.BODY, 0, 21), BAD);
        refused("26: notches from a BODY, n 0: BAD, -12", x -> x.notches(Samples.BODY, 0, 0), BAD);
        refused("26: notches from a BODY, i below 0: -12, 0", x -> x.notches(Samples.BODY, -1, 1), -12);
        refusedByNew("27: off(0) without NOTCHES: BAD, STATE", x -> x.off(0), BAD);
        refused("34: keep(6, 4)", x -> x.keep(6, 4), BAD);
        refused("35: row(6, 0, -1): BAD, -14", x -> x.row(6, 0, -1), BAD);
        refused("35: row(-1, 0, -1): BAD, -14", x -> x.row(-1, 0, -1), BAD);
        refused("35: row(1, 5, -1): BAD, -14", x -> x.row(1, 5, -1), BAD);
        refused("35: row(1, -1, -1): BAD, -14", x -> x.row(1, -1, -1), BAD);
        refused("36: put(6, -1, 1): BAD, -11, -13", x -> x.put(6, -1, 1), BAD);
        refused("36: put on nothing at 99: -11, -13", x -> x.put(Samples.NOTHING, 99, 1), -11);
        refused("36: put on a BODY at -1: -12, -13", x -> x.put(Samples.BODY, -1, 1), -12);
        refused("38: shift(6, .. nothing): BAD, -11", x -> x.shift(6, 0, Samples.NOTHING, 0, 1), BAD);
        refused("38: shift(nothing, .. 6): BAD, -11", x -> x.shift(Samples.NOTHING, 0, 6, 0, 1), BAD);
        refused("38: shift(-1, .. BODY): BAD, -12", x -> x.shift(-1, 0, Samples.BODY, 0, 1), BAD);
        refused("38: shift(BYTES, .. 6, n -1): BAD, -13", x -> x.shift(Samples.BYTES, 0, 6, 0, -1), BAD);
        refused("38: shift(nothing, BODY): -11, -12", x -> x.shift(Samples.NOTHING, 0, Samples.BODY, 0, 1), -11);
        refused("38: shift(BODY, nothing): -11, -12", x -> x.shift(Samples.BODY, 0, Samples.NOTHING, 0, 1), -11);
        refused("38: shift(nothing, n -1): -11, -13", x -> x.shift(Samples.NOTHING, 0, Samples.BYTES, 0, -1), -11);
        refused("38: shift(BYTES, nothing, n 99): -11, -13", x -> x.shift(1, 0, Samples.NOTHING, 0, 99), -11);
        refused("38: shift(BYTES, SHORTS, n -1): -12, -13", x -> x.shift(Samples.BYTES, 0, Samples.SHORTS, 0, -1), -12);
        refused("38: shift(BYTES, BODY, i -1): -12, -13", x -> x.shift(Samples.BYTES, -1, Samples.BODY, 0, 1), -12);
        refused("39: taken(6, 8)", x -> x.taken(6, 8), BAD);
        refused("39: taken(nothing, 8): BAD, -11", x -> x.taken(Samples.NOTHING, 8), BAD);
        refused("39: taken(BYTES, -1): BAD, -12", x -> x.taken(Samples.BYTES, -1), BAD);
    }
}
