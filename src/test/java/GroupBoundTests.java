import java.util.ArrayList;
import java.util.List;
import java.util.Set;
import java.util.TreeSet;

/** Promises 10 to 23: each sentence that names a bound has a test of its own; its remark tells promise and sentence. */
public final class GroupBoundTests {
    private static final int BAD = -1, NOT = -2, FULL = -3, VOID = -2000000000, TOO_DEEP = -9999;
    private static final int LOWEST = Integer.MIN_VALUE, HIGHEST = Integer.MAX_VALUE;
    private static final int ALONE = 0, ROWED = 1, WEDGED = 2, LINED = 3;
    /** In a CELL of depth 10 and pace 10 PUSH is LEE. */
    private static final String TEN = "10,10,0";
    /** 30 heavy, 11 high: SUNK by 10, HOLD is 3 and the PACK, times LEGS, where BED is 0. */
    private static final int SMALL = 3011;
    /** LEGS and PACK of HOLD 100, 85, 70, 55, 40 (the LEES of ROWED) there, and of one less each. */
    private static final int[] JUST = {517, 514, 707, 508, 407}, ONE_LESS = {908, 709, 320, 606, 310};

    private interface AskAt {
        long of(AcrossOnFoot x, int place, int hour);
    }

    private GroupBoundTests() {
    }

    public static void main(String[] args) {
        eightPeople();
        weightAndHeight();
        legsAndPack();
        setToTheBounds();
        setOneOnly();
        groupsOfOneToFive();
        digitsUnlike();
        fourForms();
        placesAndHours();
        eachPlaceAtEachHour();
        cellsOfOtherPlaces();
        ranksAndCells();
        cellsAtPlaceAndHour();
        sunkIsTheLesser();
        notBelowHeight();
        holdIsCut();
        bedAndLegs();
        tenthIsCut();
        meanIsCut();
        pushIsCut();
        lees();
        standsAtZero();
        standsAtZeroAloneAndLined();
        allInAllCells();
        firstCellThenRank();
        leastOfAll();
        likeOrders();
        bestOrderIsTheLast();
        eachOrderOfFive();
        orderOfOneAndOfFive();
        darkHours();
        fromHourToHour();
        likeOnesInBest();
        bestIsTheLast();
        noHoursNoPlaces();
        gustsOneToFifty();
        gustsUpToG();
        gustsAheadOfEachCell();
        gustsOnTopOfThePace();
        harm();
        awaitFromOneOn();
        awaitNoneBy47();
        awaitAtEachPlace();
        mustNotAtZero();
        mustNotInSomeCell();
        nobodyAndEight();
        mustNotOfAll();
        midstMinutes();
        midstAtMost47();
        midstNone();
        backAtTheirHours();
        backAtMost47();
        backAtZero();
        lineAtTheBounds();
        lineInThought();
        wallNot();
        likeWalls();
        ropedAtZero();
        ropedHalvesAreCut();
        ropedNextOnly();
        ropedAllAtOnce();
        Due.end();
    }

    /** So many PEOPLE who are SMALL, with these LEGS and PACKS, at these PLACES. */
    private static AcrossOnFoot small(int[] lps, String... places) {
        AcrossOnFoot x = Due.at(places);
        for (int lp : lps) {
            x.person(SMALL, lp);
        }
        return x;
    }

    private static void force(AcrossOnFoot x, String law) {
        Due.holds("6: " + law, x.force(Due.law(x, law)) >= -1);
    }

    private static void setLp(AcrossOnFoot x, int person, int lp) {
        x.set(person, 0, lp / 100);
        x.set(person, 1, lp % 100);
    }

    // ---- promises 10 to 12

    /** 10: "PEOPLE 0 .. 7, as they come", "BAD, FULL". */
    private static void eightPeople() {
        AcrossOnFoot x = new AcrossOnFoot();
        for (int n = 0; n < 8; n++) {
            Due.is("12: not there yet", x.of(n, 0), BAD);
            Due.is("10: person " + n, x.person(7018 + 100 * n, 420 + n), n);
            Due.is("10: so many", x.count(2), n + 1);
        }
        Due.is("10: the ninth", x.person(7018, 420), FULL);
        Due.is("10: BAD goes ahead of FULL", x.person(7009, 420), BAD);
        Due.is("10: eight", x.count(2), 8);
        Due.is("12: there is no ninth", x.of(8, 0), BAD);
        for (int n = 0; n < 8; n++) {
            Due.is("12: WEIGHT of " + n, x.of(n, 0), 70 + n);
            Due.is("12: PACK of " + n, x.of(n, 3), 20 + n);
        }
    }

    /** 10: "WEIGHT (30 .. 120), HEIGHT (10 .. 22)". */
    private static void weightAndHeight() {
        for (int weight = 0; weight <= 214; weight++) {
            AcrossOnFoot x = new AcrossOnFoot();
            boolean may = weight >= 30 && weight <= 120;
            Due.is("10: WEIGHT " + weight, x.person(100 * weight + 10, 0), may ? 0 : BAD);
            Due.is("10: so many", x.count(2), may ? 1 : 0);
            Due.is("12: WEIGHT", x.of(0, 0), may ? weight : BAD);
        }
        for (int height = 0; height <= 99; height++) {
            AcrossOnFoot x = new AcrossOnFoot();
            boolean may = height >= 10 && height <= 22;
            Due.is("10: HEIGHT " + height, x.person(12000 + height, 0), may ? 0 : BAD);
            Due.is("10: so many", x.count(2), may ? 1 : 0);
            Due.is("12: HEIGHT", x.of(0, 1), may ? height : BAD);
        }
    }

    /** 10: "LEGS (0 .. 9), PACK (0 .. 40)". */
    private static void legsAndPack() {
        for (int lp = -200; lp <= 1200; lp++) {
            AcrossOnFoot x = new AcrossOnFoot();
            boolean may = lp >= 0 && lp < 1000 && lp % 100 <= 40;
            Due.is("10: LEGS and PACK " + lp, x.person(3022, lp), may ? 0 : BAD);
            Due.is("12: LEGS", x.of(0, 2), may ? lp / 100 : BAD);
            Due.is("12: PACK", x.of(0, 3), may ? lp % 100 : BAD);
        }
    }

    /** 11: "LEGS (what 0), PACK (1) of a PERSON becomes v: what it was": to the least and the greatest. */
    private static void setToTheBounds() {
        AcrossOnFoot x = new AcrossOnFoot();
        x.person(7018, 420);
        x.person(3010, 939);
        int[][] calls = {
            // person, what, v, answer
            {0, 0, 0, 4}, {0, 0, 9, 0}, {0, 0, 10, BAD}, {0, 0, -1, BAD}, {0, 1, 0, 20}, {0, 1, 40, 0}, {0, 1, 41, BAD},
            {0, 1, -1, BAD}, {1, 0, 0, 9}, {1, 1, 40, 39}, {1, 1, 0, 40}, {0, 2, 1, BAD}, {0, -1, 1, BAD}, {2, 0, 1, BAD},
            {-1, 0, 1, BAD}, {0, 0, LOWEST, BAD}, {0, 1, HIGHEST, BAD},
        };
        for (int[] c : calls) {
            Due.is("11: set(" + c[0] + ", " + c[1] + ", " + c[2] + ")", x.set(c[0], c[1], c[2]), c[3]);
        }
        int[][] due = {{70, 18, 9, 40}, {30, 10, 0, 0}};
        for (int k = 0; k < 8; k++) {
            Due.is("12: of(" + k / 4 + ", " + k % 4 + ")", x.of(k / 4, k % 4), due[k / 4][k % 4]);
        }
    }

    /** 11: it becomes v of that PERSON, and of no other; WEIGHT and HEIGHT stay. */
    private static void setOneOnly() {
        for (int n = 0; n < 16; n++) {
            AcrossOnFoot x = new AcrossOnFoot();
            for (int person = 0; person < 8; person++) {
                x.person(7018, 420);
            }
            x.set(n / 2, n % 2, 7);
            for (int k = 0; k < 32; k++) {
                int told = new int[] {70, 18, 4, 20}[k % 4];
                Due.is("12: after set " + n, x.of(k / 4, k % 4), k == n / 2 * 4 + 2 + n % 2 ? 7 : told);
            }
        }
    }

    // ---- what a GROUP, a PLACE and an HOUR, a RANK and a CELL may be

    /** 13: "A GROUP is told as digits (numbers and 1, unlike, 1 to 5 of them)". */
    private static void groupsOfOneToFive() {
        AcrossOnFoot x = small(new int[] {101, 102, 103, 104, 105, 106, 107, 108}, "0,0,0/0");
        for (int digits : new int[] {1, 8, 12, 87, 123, 678, 1234, 8765, 12345, 87654}) {
            Due.is("13: the first RANK of " + digits, x.margin(0, 10 * digits + ROWED, 0, 1), 30 + firstDigit(digits));
        }
        for (int digits : new int[] {0, 123456, 876543, 12345678, 1234567}) {
            Due.is("13: " + digits, x.margin(0, 10 * digits + ROWED, 0, 1), VOID);
        }
        for (int digits : new int[] {9, 19, 91, 12349, 10, 20, 102, 12340, 10000, 10203}) {
            Due.is("13: nobody of that number in " + digits, x.margin(0, 10 * digits + ROWED, 0, 1), VOID);
        }
        AcrossOnFoot y = small(new int[] {101, 102}, "0,0,0/0");
        Due.is("13: the last PERSON there", y.margin(0, 21, 0, 1), 32);
        Due.is("13: the next one is not", y.margin(0, 31, 0, 1), VOID);
        y.person(SMALL, 103);
        Due.is("13: now it is", y.margin(0, 31, 0, 1), 33);
    }

    private static int firstDigit(int digits) {
        int first = digits;
        while (first > 9) {
            first /= 10;
        }
        return first;
    }

    /** 13: "numbers and 1, unlike": the same one in any two RANKS of five. */
    private static void digitsUnlike() {
        AcrossOnFoot x = small(new int[] {101, 102, 103, 104, 105, 106, 107, 108}, "0,0,0/0");
        int[] tens = {10000, 1000, 100, 10, 1};
        for (int rank = 0; rank < 5; rank++) {
            for (int other = 0; other < rank; other++) {
                int digits = 35178 + (3 - 35178 / tens[rank] % 10) * tens[rank] + (3 - 35178 / tens[other] % 10) * tens[other];
                Due.is("13: " + digits, x.margin(0, 10 * digits, 0, 0), VOID);
            }
        }
        for (int digit = 1; digit <= 8; digit++) {
            Due.is("13: twice " + digit, x.margin(0, 110 * digit, 0, 0), VOID);
        }
        Due.is("13: all unlike", x.margin(0, 351780, 0, 1), 36);
    }

    /** 13: "FORMS: 0 ALONE, 1 ROWED, 2 WEDGED, 3 LINED": 4 to 9 are none. */
    private static void fourForms() {
        AcrossOnFoot x = small(new int[] {120, 100}, "0,0,0/0");
        int[] holds = {55, 50, 50, 45};
        for (int form = 0; form <= 9; form++) {
            Due.is("13: FORM " + form, x.margin(0, 120 + form, 0, 1), form <= 3 ? holds[form] : VOID);
        }
        Due.is("13: FORM -1", x.margin(0, -1, 0, 1), VOID);
    }

    /** 13: "(ph: 100 times the PLACE and the HOUR)": six PLACES at 48 HOURS, and what is next to them. */
    private static void placesAndHours() {
        String[] places = {"0,0,1/0", "0,0,2/0", "0,0,3/0", "0,0,4/0", "0,0,5/0", "0,0,6/0"};
        for (int place = -1; place <= 6; place++) {
            AcrossOnFoot x = small(new int[] {100}, places);
            force(x, "h/3");
            for (int hour = 0; hour <= 99; hour++) {
                boolean is = place >= 0 && place < 6 && hour < 48;
                int borne = 30 * Math.min(11, hour / 3) / 11;
                Due.is("13: PLACE " + place + ", HOUR " + hour, x.margin(100 * place + hour, 11, 0, 1),
                    is ? (30 - borne) * (place + 2) : VOID);
            }
            Due.is("13: HOUR -1", x.margin(100 * place - 1, 11, 0, 1), VOID);
        }
    }

    /** 13 to 24: "(ph: 100 times the PLACE and the HOUR)": each call, at six unlike PLACES, at the first and last HOURS. */
    private static void eachPlaceAtEachHour() {
        eachPlaceAtEachHour("13: margin", (x, place, hour) -> x.margin(100 * place + hour, 211, 100, 0));
        eachPlaceAtEachHour("14: over", (x, place, hour) -> x.over(100 * place + hour, 211, 1));
        eachPlaceAtEachHour("14: over, FIRST", (x, place, hour) -> x.over(100 * place + hour, 123, 2));
        eachPlaceAtEachHour("15: order", (x, place, hour) -> x.order(100 * place + hour, 121, 1));
        eachPlaceAtEachHour("16: best", (x, place, hour) -> x.best(12, 101 * hour, 1));
        eachPlaceAtEachHour("17: gusts", (x, place, hour) -> x.gusts(100 * place + hour, 11, hour, 5020, 0));
        eachPlaceAtEachHour("17: gusts, HARM", (x, place, hour) -> x.gusts(100 * place + hour, 11, hour, 5020, 1));
        eachPlaceAtEachHour("18: await", (x, place, hour) -> x.await(100 * place + hour, 10));
        eachPlaceAtEachHour("19: mustNot", (x, place, hour) -> x.mustNot(100 * place + hour));
        eachPlaceAtEachHour("20: midst", (x, place, hour) -> x.midst(100 * place + hour, 11, 60, 0));
        eachPlaceAtEachHour("20: midst, BACK", (x, place, hour) -> x.midst(100 * place + hour, 11, 60, 1));
        eachPlaceAtEachHour("21: line", (x, place, hour) -> x.line(place, 121));
        eachPlaceAtEachHour("23: roped", (x, place, hour) -> x.roped(100 * place + hour, 211, 100));
        eachPlaceAtEachHour("24: stick", (x, place, hour) -> x.stick(100 * place + hour, 11));
    }

    /** The answer is that of an object with no other PLACE; and it is not the same one everywhere. */
    private static void eachPlaceAtEachHour(String call, AskAt ask) {
        String[] places = {
            "3,9,1/1", "10,9,3;5,12,2/2", "2,20,9;2,10,9/3", "9,8,0;0,0,0;8,8,8/4", "7,11,4/5", "5,13,2;9,6,6;1,1,1;7,9,1/6",
        };
        String law = "h=0?-2;h=1?2;h=46?-1;h=47?1;c-12";
        Set<Long> answers = new TreeSet<>();
        for (int place = 0; place < 6; place++) {
            AcrossOnFoot x = small(new int[] {517, 606, 120}, places);
            force(x, law);
            AcrossOnFoot alone = small(new int[] {517, 606, 120}, places[place]);
            force(alone, law);
            for (int hour : new int[] {0, 1, 4, 5, 11, 12, 13, 19, 20, 23, 24, 29, 46, 47}) {
                boolean ofAllPlaces = call.startsWith("16");
                AcrossOnFoot due = ofAllPlaces ? x : alone;
                answers.add(ask.of(due, 0, hour));
                Due.is(call + " at " + place + ", " + hour, ask.of(x, place, hour), ask.of(due, 0, hour));
            }
        }
        Due.holds(call + " answers in at least two ways", answers.size() >= 2);
    }

    /** 13 to 24: a PLACE has its own CELLS alone: not those ahead and behind, nor those of a text that was refused. */
    private static void cellsOfOtherPlaces() {
        String deep = "30,30,0" + ";30,30,0".repeat(11) + "/9";
        AcrossOnFoot x = small(JUST, deep, TEN + "/7", deep, TEN + ";" + TEN + "/7");
        for (int place : new int[] {1, 3}) {
            standsEverywhere(x, place, place == 1 ? 1 : 2);
        }
        AcrossOnFoot y = small(JUST);
        Due.is("3: refused", Due.place(y, deep + "9"), -100 - deep.length());
        Due.is("3: taken", Due.place(y, TEN + "/7"), 0);
        standsEverywhere(y, 0, 1);
    }

    private static void standsEverywhere(AcrossOnFoot x, int place, int cells) {
        int ph = 100 * place + 12;
        int gf = 123450 + ROWED;
        Due.is("14: OVER", x.over(ph, gf, 0), 1);
        Due.is("14: LEAST", x.over(ph, gf, 1), 0);
        Due.is("14: FIRST", x.over(ph, gf, 2), NOT);
        Due.is("15: LEAST", x.order(ph, gf, 1), 0);
        Due.is("17: how often", x.gusts(ph, gf, 1, 5001, 0), 50);
        Due.is("18: the HOUR", x.await(ph, gf), 12);
        Due.is("19: nobody", x.mustNot(ph), 0);
        Due.is("20: all CELLS", x.midst(ph, gf, 60, 0), cells);
        Due.is("21: LINE", x.line(place, gf), 0);
        Due.is("24: all CELLS", x.stick(ph, 11), (1 << cells) - 1);
    }

    /** 13, 23: "RANK k of a GROUP in CELL i (ki: 100 k and i)": five RANKS, twelve CELLS, and what is next to them. */
    private static void ranksAndCells() {
        String twelve = "0,0,0;1,0,0;2,0,0;3,0,0;4,0,0;5,0,0;6,0,0;7,0,0;8,0,0;9,0,0;10,0,0;10,0,9/0";
        int[] lps = {101, 102, 103, 104, 105};
        for (int rank = -1; rank <= 5; rank++) {
            for (int cell = 0; cell <= 13; cell++) {
                AcrossOnFoot x = small(lps, twelve);
                boolean is = rank >= 0 && rank < 5 && cell < 12;
                int borne = 30 * Math.min(10, cell) / 11;
                int hold = (31 + rank - borne) * (cell == 11 ? 10 : 1);
                Due.is("13: RANK " + rank + ", CELL " + cell, x.margin(0, 123451, 100 * rank + cell, 1), is ? hold : VOID);
                Due.is("23: RANK " + rank + ", CELL " + cell, x.roped(0, 123451, 100 * rank + cell), is ? 1 << rank : BAD);
            }
        }
        AcrossOnFoot x = small(lps, twelve);
        for (int size = 1; size <= 5; size++) {
            int digits = 12345 / new int[] {10000, 1000, 100, 10, 1}[size - 1];
            Due.is("13: the last RANK of " + size, x.margin(0, 10 * digits + ROWED, 100 * size - 100, 1), 30 + size);
            Due.is("13: the next one", x.margin(0, 10 * digits + ROWED, 100 * size, 1), VOID);
            Due.is("23: the last RANK of " + size, x.roped(0, 10 * digits + ROWED, 100 * size - 100), 1 << size - 1);
            Due.is("23: the next one", x.roped(0, 10 * digits + ROWED, 100 * size), BAD);
        }
    }

    /** 13, 23: "of a GROUP in CELL i", "in a CELL at a PLACE and HOUR": PLACE p has p CELLS of 0 and TEN, and no more. */
    private static void cellsAtPlaceAndHour() {
        String[] places = new String[6];
        for (int place = 0; place < 6; place++) {
            places[place] = "0,0,0;".repeat(place) + TEN + "/0";
        }
        for (int place = 0; place < 6; place++) {
            AcrossOnFoot x = small(new int[] {517, 517}, places);
            force(x, "h=0?0;h=47?0;-20");
            for (int hour : new int[] {0, 1, 46, 47}) {
                for (int cell = 0; cell <= place; cell++) {
                    boolean pushes = cell == place && (hour == 0 || hour == 47);
                    String where = " at " + place + ", " + hour + " in " + cell;
                    Due.is("13: PUSH" + where, x.margin(100 * place + hour, 10, cell, 2), pushes ? 100 : 0);
                    Due.is("23: pulled in" + where, x.roped(100 * place + hour, 120, cell), pushes ? 3 : 1);
                }
                Due.is("13: no further CELL at " + place, x.margin(100 * place + hour, 10, place + 1, 2), VOID);
                Due.is("23: no further CELL at " + place, x.roped(100 * place + hour, 120, place + 1), BAD);
            }
        }
    }

    // ---- promise 13: HOLD, PUSH, MARGIN

    private static void fares(String what, AcrossOnFoot x, int gf, int ki, int hold, int push, int margin) {
        Due.is("13: HOLD, " + what, x.margin(0, gf, ki, 1), hold);
        Due.is("13: PUSH, " + what, x.margin(0, gf, ki, 2), push);
        Due.is("13: MARGIN, " + what, x.margin(0, gf, ki, 0), margin);
    }

    /** 13: "SUNK is the lesser of d and HEIGHT". */
    private static void sunkIsTheLesser() {
        AcrossOnFoot x = Due.at("0,10,0;1,10,0;9,10,0;10,10,0;11,10,0;30,10,0/0");
        x.person(3010, 110);
        fares("depth 0", x, 11, 0, 40, 0, 40);
        fares("depth 1", x, 11, 1, 37, 10, 27);
        fares("depth 9", x, 11, 2, 13, 90, -77);
        fares("as deep as high", x, 11, 3, 10, 100, TOO_DEEP);
        fares("deeper by 1", x, 11, 4, 10, 100, TOO_DEEP);
        fares("deeper by 20", x, 11, 5, 10, 100, TOO_DEEP);
    }

    /** 13: "-9999, if d is not below HEIGHT": by each HEIGHT. */
    private static void notBelowHeight() {
        for (int height = 10; height <= 22; height++) {
            for (int deeper = -1; deeper <= 1; deeper++) {
                AcrossOnFoot x = Due.at(height + deeper + ",0,0/0");
                x.person(3000 + height, 940);
                for (int form = 0; form <= 3; form++) {
                    int margin = x.margin(0, 10 + form, 0, 0);
                    Due.holds("13: HEIGHT " + height + ", deeper by " + deeper, margin == TOO_DEEP == deeper >= 0);
                    Due.is("13: MARGIN is HOLD else", deeper >= 0 ? 0 : margin - x.margin(0, 10 + form, 0, 1), 0);
                }
            }
        }
    }

    /** 13: "less WEIGHT times SUNK by HEIGHT (cut)". */
    private static void holdIsCut() {
        int[] of31 = {31, 28, 25, 22, 19, 16, 13, 10, 7, 4}, of39 = {39, 36, 32, 28, 24, 20, 16, 12, 8, 4};
        for (int depth = 0; depth < 10; depth++) {
            AcrossOnFoot x = Due.at(depth + ",0,0/0");
            x.person(3110, 100);
            x.person(3910, 100);
            Due.is("13: 31 less 31 times " + depth + " by 10", x.margin(0, 11, 0, 1), of31[depth]);
            Due.is("13: 39 less 39 times " + depth + " by 10", x.margin(0, 21, 0, 1), of39[depth]);
        }
        AcrossOnFoot y = Due.at("21,0,0/0");
        y.person(12022, 100);
        Due.is("13: 120 less 120 times 21 by 22", y.margin(0, 11, 0, 1), 6);
    }

    /** 13: "(WEIGHT and PACK ...) times (BED and LEGS)": 0 and 0, 9 and 9. */
    private static void bedAndLegs() {
        AcrossOnFoot x = Due.at("0,30,0;0,30,9;29,0,9/0");
        x.person(12022, 940);
        x.person(12022, 40);
        x.person(3010, 0);
        fares("BED 0, LEGS 0", x, 21, 0, 0, 0, 0);
        fares("BED 0, LEGS 9", x, 11, 0, 1440, 0, 1440);
        fares("BED 9, LEGS 0", x, 21, 1, 1440, 0, 1440);
        fares("BED 9, LEGS 9", x, 11, 1, 2880, 0, 2880);
        fares("BED 9, LEGS 9, ALONE", x, 10, 1, 3168, 0, 3168);
        fares("BED 9, LEGS 0, the PACK alone", x, 21, 2, 360, 0, TOO_DEEP);
        fares("nothing but the WEIGHT, all of it borne", x, 31, 2, 0, 0, TOO_DEEP);
    }

    /** 13: "ALONE: a tenth of it more (cut)". */
    private static void tenthIsCut() {
        int[][] rows = {{100, 3, 3}, {106, 9, 9}, {107, 10, 11}, {116, 19, 20}, {117, 20, 22}, {140, 43, 47}, {0, 0, 0}};
        for (int[] row : rows) {
            AcrossOnFoot x = small(new int[] {row[0]}, "10,0,0/0");
            Due.is("13: ROWED", x.margin(0, 10 + ROWED, 0, 1), row[1]);
            Due.is("13: WEDGED", x.margin(0, 10 + WEDGED, 0, 1), row[1]);
            Due.is("13: LINED", x.margin(0, 10 + LINED, 0, 1), row[1]);
            Due.is("13: ALONE", x.margin(0, 10 + ALONE, 0, 1), row[2]);
        }
    }

    /** 13: "LINED: it and the mean (cut) of these of all of the GROUP there, together, by 2 (cut)". */
    private static void meanIsCut() {
        // 3, 4, 5, 3, 3 hold
        AcrossOnFoot x = small(new int[] {100, 101, 102, 100, 100}, "10,0,0/0");
        int[][] rows = {
            {1, 3}, {2, 4}, {12, 3, 3}, {21, 3, 3}, {13, 3, 4}, {31, 4, 3}, {23, 4, 4}, {143, 3, 3, 4}, {1453, 3, 3, 3, 4},
            {14532, 3, 3, 3, 4, 3}, {321, 4, 4, 3},
        };
        for (int[] row : rows) {
            for (int rank = 0; rank < row.length - 1; rank++) {
                Due.is("13: LINED " + row[0] + ", RANK " + rank, x.margin(0, 10 * row[0] + LINED, 100 * rank, 1),
                    row[rank + 1]);
            }
        }
        // 0 and 43: 21 is the mean, then 10 and 32
        AcrossOnFoot y = small(new int[] {0, 140}, "10,0,0/0");
        Due.is("13: the weak one", y.margin(0, 120 + LINED, 0, 1), 10);
        Due.is("13: the strong one", y.margin(0, 120 + LINED, 100, 1), 32);
    }

    /** 13: "PUSH is SUNK s s LEE by 1000 (cut)". */
    private static void pushIsCut() {
        int[][] rows = {
            // depth, pace, PUSH with LEE 100
            {9, 1, 0}, {10, 1, 1}, {19, 1, 1}, {20, 1, 2}, {1, 3, 0}, {1, 4, 1}, {2, 2, 0}, {3, 2, 1}, {0, 30, 0}, {21, 0, 0},
            {21, 30, 1890},
        };
        for (int[] row : rows) {
            AcrossOnFoot x = Due.at(row[0] + "," + row[1] + ",0/0");
            x.person(3022, 100);
            Due.is("13: depth " + row[0] + ", pace " + row[1], x.margin(0, 11, 0, 2), row[2]);
        }
        // 1000 by LEE 85: 850; 1180 by 85: 1003
        AcrossOnFoot y = Due.at("10,1,0;20,1,0;12,1,0;11,1,0/0");
        y.person(3022, 100);
        y.person(3022, 100);
        int[] pushes = {0, 1, 1, 0};
        for (int i = 0; i < 4; i++) {
            Due.is("13: LEE 85, CELL " + i, y.margin(0, 121, 100 + i, 2), pushes[i]);
        }
    }

    /** 13: "LEE of a RANK": of each of five. */
    private static void lees() {
        AcrossOnFoot x = small(JUST, TEN + "/0");
        int[][] due = {{100, 100, 100, 100, 100}, {100, 85, 70, 55, 40}, {100, 60, 60, 40, 40}, {100, 100, 100, 100, 100}};
        for (int form = 0; form <= 3; form++) {
            for (int rank = 0; rank < 5; rank++) {
                Due.is("13: FORM " + form + ", RANK " + rank, x.margin(0, 543210 + form, 100 * rank, 2), due[form][rank]);
                Due.is("13: the same in a GROUP that ends there", x.margin(0,
                    10 * (54321 / new int[] {10000, 1000, 100, 10, 1}[rank]) + form, 100 * rank, 2), due[form][rank]);
            }
        }
    }

    // ---- promise 14

    /** 14: "One STANDS, if MARGIN is 0 or more": five with 0 each, and each of them with -1. */
    private static void standsAtZero() {
        for (int rank = -1; rank < 5; rank++) {
            AcrossOnFoot x = small(JUST, TEN + "/7");
            if (rank >= 0) {
                setLp(x, rank, ONE_LESS[rank]);
            }
            boolean all = rank < 0;
            int gf = 123450 + ROWED;
            for (int k = 0; k < 5; k++) {
                Due.is("13: MARGIN of RANK " + k, x.margin(5, gf, 100 * k, 0), k == rank ? -1 : 0);
            }
            Due.is("14: OVER", x.over(5, gf, 0), all ? 1 : 0);
            Due.is("14: LEAST", x.over(5, gf, 1), all ? 0 : -1);
            Due.is("14: FIRST", x.over(5, gf, 2), all ? NOT : rank);
            Due.is("17: OVER without a gust", x.gusts(5, gf, 1, 5001, 0), all ? 50 : 0);
            Due.is("18: the HOUR", x.await(5, gf), all ? 5 : NOT);
            Due.is("20: the CELL", x.midst(5, gf, 1, 0), all ? 1 : 0);
            Due.is("21: LINE", x.line(0, gf), all ? 0 : -1);
        }
    }

    /** 14: "One STANDS, if MARGIN is 0 or more": ALONE 91 and 9 hold, or 90 and 9; LINED 100, or 99; 100 push. */
    private static void standsAtZeroAloneAndLined() {
        AcrossOnFoot x = small(new int[] {710, 907, 517, 908}, TEN + "/7");
        Due.is("14: ALONE, 0", x.over(0, 10 + ALONE, 0), 1);
        Due.is("14: ALONE, LEAST 0", x.over(0, 10 + ALONE, 1), 0);
        Due.is("14: ALONE, -1", x.over(0, 20 + ALONE, 0), 0);
        Due.is("14: ALONE, LEAST -1", x.over(0, 20 + ALONE, 1), -1);
        Due.is("14: LINED, 0", x.over(0, 30 + LINED, 0), 1);
        Due.is("14: LINED, -1", x.over(0, 40 + LINED, 0), 0);
        Due.is("14: WEDGED, 0", x.over(0, 30 + WEDGED, 0), 1);
        Due.is("14: WEDGED, -1", x.over(0, 40 + WEDGED, 0), 0);
    }

    /** 14: "OVER: all STAND in all CELLS of a PLACE": not, if one does not in one of 12. */
    private static void allInAllCells() {
        for (int i = 0; i < 12; i++) {
            for (int rank = 0; rank < 5; rank++) {
                String shallow = "0,0,0";
                AcrossOnFoot x = small(JUST, (shallow + ";").repeat(i) + TEN + (";" + shallow).repeat(11 - i) + "/0");
                int gf = 123450 + ROWED;
                Due.is("14: all stand in CELL " + i, x.over(0, gf, 0), 1);
                Due.is("14: FIRST", x.over(0, gf, 2), NOT);
                setLp(x, rank, ONE_LESS[rank]);
                Due.is("14: one does not", x.over(0, gf, 0), 0);
                Due.is("14: LEAST", x.over(0, gf, 1), -1);
                Due.is("14: FIRST", x.over(0, gf, 2), 100 * i + rank);
            }
        }
    }

    /** 14: "FIRST of those who do not STAND: the first CELL, then the first RANK". */
    private static void firstCellThenRank() {
        AcrossOnFoot x = Due.at("12,0,0;15,0,0;20,0,0/0");
        x.person(3020, 100);
        x.person(3015, 100);
        x.person(3012, 100);
        Due.is("14: RANK 2 in CELL 0", x.over(0, 1231, 2), 2);
        Due.is("14: RANK 0 in CELL 0", x.over(0, 3211, 2), 0);
        Due.is("14: RANK 1 in CELL 1", x.over(0, 121, 2), 101);
        Due.is("14: RANK 0 in CELL 1", x.over(0, 211, 2), 100);
        Due.is("14: RANK 0 in CELL 2", x.over(0, 11, 2), 200);
        Due.is("14: RANK 1 in CELL 0, and in 1 both", x.over(0, 231, 2), 1);
    }

    /** 14: "LEAST: the least MARGIN of all of them in all CELLS": in the first and the last of them. */
    private static void leastOfAll() {
        AcrossOnFoot x = Due.at("0,0,1;0,0,2;0,0,3/0", "0,0,3;0,0,2;0,0,1/0", "0,0,3;0,0,1;0,0,2/0");
        x.person(3022, 0);
        x.person(3122, 0);
        x.person(3222, 0);
        for (int place = 0; place < 3; place++) {
            Due.is("14: the first RANK", x.over(100 * place, 1231, 1), 30);
            Due.is("14: the last RANK", x.over(100 * place, 3211, 1), 30);
            Due.is("14: the middle RANK", x.over(100 * place, 2131, 1), 30);
            Due.is("14: of two", x.over(100 * place, 321, 1), 31);
            Due.is("14: of one", x.over(100 * place, 31, 1), 32);
        }
    }

    // ---- promise 15

    /** 15: "of like ones the least as digits". */
    private static void likeOrders() {
        AcrossOnFoot x = small(new int[] {517, 517, 517, 517, 517, 517, 517, 517}, TEN + "/0");
        for (int form = 0; form <= 3; form++) {
            Due.is("15: two alike", x.order(0, 210 + form, 0), 12);
            Due.is("15: three alike", x.order(0, 8670 + form, 0), 678);
            Due.is("15: five alike", x.order(0, 876540 + form, 0), 45678);
            Due.is("15: told so", x.order(0, 456780 + form, 0), 45678);
        }
        // HOLD 100, 85, 70, ROWED: but for the first, who must go first, all that stand alike
        AcrossOnFoot y = small(new int[] {517, 514, 514}, TEN + "/0");
        Due.is("15: the first, then the least", y.order(0, 3121, 0), 123);
        Due.is("15: all stand but for 85 less 70", y.order(0, 3211, 1), 0);
    }

    /** 15: "of all orders of the same PEOPLE the one with the greatest LEAST": it may be the very last one. */
    private static void bestOrderIsTheLast() {
        AcrossOnFoot x = small(new int[] {407, 508, 707, 514, 517}, TEN + "/0");
        Due.is("15: the strongest first", x.order(0, 123450 + ROWED, 0), 54321);
        Due.is("15: LEAST", x.order(0, 123450 + ROWED, 1), 0);
        Due.is("15: the first is told", x.order(0, 543210 + ROWED, 0), 54321);
        Due.is("15: of two", x.order(0, 120 + ROWED, 0), 21);
        AcrossOnFoot y = small(JUST, TEN + "/0");
        Due.is("15: the first order is the best", y.order(0, 543210 + ROWED, 0), 12345);
        Due.is("15: LEAST", y.order(0, 543210 + ROWED, 1), 0);
    }

    /** 15: "of all orders of the same PEOPLE": by who holds how much each of the 120 is the best. */
    private static void eachOrderOfFive() {
        for (int drawn = 0; drawn < 120; drawn++) {
            List<Integer> left = new ArrayList<>(List.of(0, 1, 2, 3, 4));
            int[] lps = new int[5];
            int digits = 0;
            for (int rank = 0, rest = drawn; rank < 5; rank++) {
                int person = left.remove(rest % left.size());
                rest /= left.size() + 1;
                lps[person] = JUST[rank];
                digits = 10 * digits + person + 1;
            }
            AcrossOnFoot x = small(lps, TEN + "/0");
            Due.is("15: " + digits, x.order(0, 312450 + ROWED, 0), digits);
            Due.is("15: LEAST of " + digits, x.order(0, 312450 + ROWED, 1), 0);
        }
    }

    /** 15: BEST ORDER of the smallest GROUP, and of one by HOURS at which nobody goes. */
    private static void orderOfOneAndOfFive() {
        AcrossOnFoot x = small(JUST, TEN + "/0");
        for (int person = 1; person <= 5; person++) {
            Due.is("15: one", x.order(0, 10 * person + ROWED, 0), person);
            Due.is("15: LEAST of one", x.order(0, 10 * person + ROWED, 1), -15 * (person - 1));
        }
        force(x, "h=47?-10");
        Due.is("15: HOUR 46", x.order(46, 10 + ROWED, 1), 0);
        Due.is("15: HOUR 47", x.order(47, 10 + ROWED, 1), 235);
    }

    // ---- promise 16

    /** 16, 18: "DARK are HOURS with c below 5 or above 19: nobody goes". */
    private static void darkHours() {
        AcrossOnFoot x = small(new int[] {100}, "0,0,0/0");
        AcrossOnFoot y = small(new int[] {100}, "0,0,0/0");
        for (int hour = 0; hour < 48; hour++) {
            boolean lit = hour >= 5 && hour <= 19 || hour >= 29 && hour <= 43;
            Due.is("16: HOUR " + hour, x.best(1, 101 * hour, 0), lit ? 1000 * hour : NOT);
            Due.is("16: LEAST at HOUR " + hour, x.best(1, 101 * hour, 1), lit ? 33 : NOT);
            int first = lit ? hour : hour < 5 ? 5 : hour < 29 ? 29 : NOT;
            Due.is("18: from HOUR " + hour, y.await(hour, 10), first);
        }
    }

    /** 16: "(fromTo: 100 times the one and the other, not less)". */
    private static void fromHourToHour() {
        AcrossOnFoot x = small(new int[] {100}, "0,0,0/0");
        force(x, "-h");
        for (int from : new int[] {0, 1, 12, 46, 47}) {
            for (int to : new int[] {0, 1, 12, 46, 47, 48, 99}) {
                int answer = x.best(1, 100 * from + to, 0);
                Due.holds("16: from " + from + " to " + to, answer == VOID == (to < from || to > 47));
            }
        }
        for (int fromTo : new int[] {4800, 4847, 4848, 5050, 9999, 10000, -1, -12, -101, LOWEST, HIGHEST}) {
            Due.is("16: fromTo " + fromTo, x.best(1, fromTo, 0), VOID);
        }
        AcrossOnFoot y = small(new int[] {100}, "5,0,0/0");
        force(y, "h=12?-1;h=14?-1;h=11?-2;h=15?-2");
        Due.is("16: from 12 to 14: 12 counts", y.best(1, 1214, 0), 12000);
        Due.is("16: from 13 to 14: 14 counts", y.best(1, 1314, 0), 14000);
        Due.is("16: from 13 to 15: 15 counts", y.best(1, 1315, 0), 15000);
        Due.is("16: from 11 to 14: 11 counts", y.best(1, 1114, 0), 11000);
    }

    /** 16: "of like ones the first HOUR, then PLACE, then FORM". */
    private static void likeOnesInBest() {
        AcrossOnFoot x = small(new int[] {100}, "0,0,0/0", "0,0,0/0", "0,0,0/0");
        Due.is("16: like HOURS, PLACES", x.best(1, 747, 0), 7000);
        x.mend(0, 0, 0, 5);
        Due.is("16: like HOURS ahead of PLACES", x.best(1, 747, 0), 7010);
        x.mend(1, 0, 0, 5);
        Due.is("16: the last PLACE", x.best(1, 747, 0), 7020);
        AcrossOnFoot w = small(new int[] {100}, "5,0,0/0", "3,0,0/0");
        force(w, "h=8?-2");
        // 3 deep at all HOURS but 8: PLACE 1; at 8 PLACE 0, too
        Due.is("16: the greatest LEAST", w.best(1, 708, 0), 8010);
        w.mend(1, 0, 0, 5);
        Due.is("16: then PLACE", w.best(1, 709, 0), 8000);
        // 3 hold without water: alike in all FORMS; HOLD 9, 8 and PUSH 1, 1 or 1, 0: ROWED and WEDGED 8, the others 7
        AcrossOnFoot y = small(new int[] {106, 105}, "10,1,0/0", "10,1,0/0");
        Due.is("16: FORM 0 of like ones", y.best(1, 747, 0), 7000);
        Due.is("16: FORM 1 of two like ones", y.best(12, 747, 0), 7001);
        Due.is("16: its LEAST", y.best(12, 747, 1), 8);
        for (int form = 0; form <= 3; form++) {
            Due.is("14: LEAST by FORM " + form, y.over(7, 120 + form, 1), new int[] {7, 8, 8, 7}[form]);
        }
    }

    /** 16: "of all HOURS that are not DARK, PLACES, FORMS": the last of each. */
    private static void bestIsTheLast() {
        String deep = "10,0,0/0";
        AcrossOnFoot x = small(new int[] {140, 100}, deep, deep, deep, deep, deep, "9,0,0/0");
        force(x, "h=43?-1;h=19?-1;h=44?-9;h=20?-9;h=28?-9;h=4?-9");
        // LINED helps the weak one most
        Due.is("16: up to 19", x.best(12, 42, 0), 19053);
        Due.is("16: behind 19", x.best(12, 2047, 0), 43053);
        Due.is("16: LEAST", x.best(12, 2047, 1), x.over(543, 123, 1));
        AcrossOnFoot y = small(new int[] {517, 606, 606}, TEN + "/0");
        Due.is("16: HOLD 100, 54, 54 by 60, 60", y.over(0, 1232, 1), -6);
        Due.is("16: WEDGED", y.best(123, 1212, 0), 12002);
        Due.is("16: LEAST", y.best(123, 1212, 1), -6);
    }

    /** 16: "NOT: no such HOURS, or no PLACES", "VOID: BAD; NOT". */
    private static void noHoursNoPlaces() {
        AcrossOnFoot none = new AcrossOnFoot();
        none.person(SMALL, 100);
        for (int what = 0; what <= 1; what++) {
            Due.is("16: no PLACES", none.best(1, 747, what), NOT);
            Due.is("16: no PLACES, no HOURS", none.best(1, 4, what), NOT);
            AcrossOnFoot x = small(new int[] {100}, "0,0,0/0");
            for (int fromTo : new int[] {0, 4, 404, 2020, 2028, 2828, 4444, 4447, 4747}) {
                Due.is("16: no such HOURS: " + fromTo, x.best(1, fromTo, what), NOT);
            }
            for (int fromTo : new int[] {5, 405, 505, 1919, 1920, 1928, 2029, 2829, 2929, 4343, 4344, 4347}) {
                Due.holds("16: such HOURS: " + fromTo, x.best(1, fromTo, what) >= 0);
            }
        }
        Due.is("16: VOID goes ahead of NOT", none.best(2, 747, 0), VOID);
        Due.is("16: VOID goes ahead of NOT", none.best(1, 748, 0), VOID);
        Due.is("16: VOID goes ahead of NOT", none.best(1, 747, 2), VOID);
        Due.is("16: VOID goes ahead of NOT", none.best(1, 747, -1), VOID);
    }

    // ---- promise 17

    /** How often one with HOLD 100 is over CELLS 10 deep without a pace, each: by gusts up to 10. */
    private static int timesOver(int cells, int seed, int n, int most, boolean goesOnBehindAFall) {
        int overs = 0;
        int z = seed;
        for (int time = 0; time < n; time++) {
            boolean over = true;
            for (int i = 0; i < cells && (over || goesOnBehindAFall); i++) {
                z = z * 1103515245 + 12345;
                over &= (z >>> 8) % most <= 10;
            }
            overs += over ? 1 : 0;
        }
        return overs;
    }

    private static AcrossOnFoot gusty(int cells) {
        return small(new int[] {517}, "10,0,0" + ";10,0,0".repeat(cells - 1) + "/9");
    }

    /** 17: "n times (1 .. 50) by a SEED". */
    private static void gustsOneToFifty() {
        AcrossOnFoot x = gusty(1);
        for (int n = 1; n <= 50; n++) {
            Due.is("17: " + n + " times", x.gusts(5, 11, 3, 100 * n + 20, 0), timesOver(1, 3, n, 20, true));
            Due.is("17: " + n + " times without a gust", x.gusts(5, 11, 3, 100 * n + 1, 0), n);
        }
        for (int ng : new int[] {20, 5101, 5120, 1, 0, -80, -101}) {
            Due.is("17: ng " + ng, x.gusts(5, 11, 3, ng, 0), BAD);
        }
    }

    /** 17: "G (1 .. 20)": gusts of 0 to G less 1; "by a SEED", any int. */
    private static void gustsUpToG() {
        AcrossOnFoot x = gusty(1);
        for (int most = 1; most <= 20; most++) {
            for (int seed : new int[] {0, 1, -1, LOWEST, HIGHEST, 12345, -99}) {
                Due.is("17: G " + most + ", seed " + seed, x.gusts(5, 11, seed, 5000 + most, 0),
                    timesOver(1, seed, 50, most, true));
            }
            if (most <= 11) {
                Due.is("17: a gust of 10 at most", x.gusts(5, 11, 8, 5000 + most, 0), 50);
            }
        }
        Due.holds("17: a gust of 11", x.gusts(5, 11, 8, 5012, 0) < 50);
        for (int ng : new int[] {100, 121, 199, 5000, 5021}) {
            Due.is("17: ng " + ng, x.gusts(5, 11, 3, ng, 0), BAD);
        }
    }

    /** 17: "ahead of each (all CELLS, each time)": behind a fall, too. */
    private static void gustsAheadOfEachCell() {
        int unlike = 0;
        for (int cells = 1; cells <= 12; cells++) {
            AcrossOnFoot x = gusty(cells);
            for (int seed = -10; seed <= 10; seed++) {
                int due = timesOver(cells, seed, 50, 14, true);
                Due.is("17: " + cells + " cells, seed " + seed, x.gusts(5, 11, seed, 5014, 0), due);
                unlike += due == timesOver(cells, seed, 50, 14, false) ? 0 : 1;
            }
        }
        Due.holds("17: it would be another number else", unlike > 100);
    }

    /** 17: "PACE is more by (z >>> 8) % G": on top of a pace of 7: by gusts up to 3 HOLD 100 is enough. */
    private static void gustsOnTopOfThePace() {
        for (int most = 1; most <= 20; most++) {
            AcrossOnFoot x = small(new int[] {517}, "10,7,0/9");
            int overs = 0;
            int z = most;
            for (int n = 0; n < 50; n++) {
                z = z * 1103515245 + 12345;
                overs += (z >>> 8) % most <= 3 ? 1 : 0;
            }
            Due.is("17: G " + most, x.gusts(5, 11, most, 5000 + most, 0), overs);
            Due.holds("17: always by G 4, not by G 5", most <= 4 == (overs == 50));
            // by a RISE of -5 7 is 5, and by gusts up to 5; 5 deep, less is borne: HOLD 190, PUSH 5 times the square by 10
            force(x, "-5");
            Due.is("17: at the HOUR", x.gusts(5, 11, most, 5000 + most, 0), overAtMinus5(most));
        }
    }

    /** 30 and 17 less 13 by 5 LEGS: 170 hold; a pace of 18 pushes 162, one of 19 180: by gusts up to 13. */
    private static int overAtMinus5(int most) {
        int overs = 0;
        int z = most;
        for (int n = 0; n < 50; n++) {
            z = z * 1103515245 + 12345;
            overs += (z >>> 8) % most <= 13 ? 1 : 0;
        }
        return overs;
    }

    /** 17: "HARM: BELOW times how often not": 0, and 9 times 50. */
    private static void harm() {
        for (int below = 0; below <= 9; below++) {
            AcrossOnFoot x = small(new int[] {517, 908}, TEN + "/" + below);
            Due.is("17: always OVER", x.gusts(5, 11, 1, 5001, 1), 0);
            Due.is("17: never OVER", x.gusts(5, 21, 1, 5001, 1), 50 * below);
            Due.is("17: once not OVER", x.gusts(5, 21, 1, 101, 1), below);
            Due.is("17: what 2", x.gusts(5, 21, 1, 101, 2), BAD);
            Due.is("17: what -1", x.gusts(5, 21, 1, 101, -1), BAD);
        }
    }

    // ---- promises 18 and 19

    /** 18: "the first HOUR from one on ... at which a GROUP is OVER": that one, too. */
    private static void awaitFromOneOn() {
        for (int hour = 5; hour <= 19; hour++) {
            AcrossOnFoot x = small(JUST, TEN + "/0");
            force(x, "h=" + hour + "?0;1");
            Due.is("18: from 0 on", x.await(0, 123451), hour);
            Due.is("18: from the one ahead on", x.await(hour - 1, 123451), hour);
            Due.is("18: from that one on", x.await(hour, 123451), hour);
            Due.is("18: from the next one on", x.await(hour + 1, 123451), NOT);
        }
    }

    /** 18: "NOT: none by 47". */
    private static void awaitNoneBy47() {
        AcrossOnFoot x = small(JUST, TEN + "/0");
        force(x, "h>42?0;1");
        Due.is("18: at 43", x.await(0, 123451), 43);
        Due.is("18: from 43 on", x.await(43, 123451), 43);
        for (int from = 44; from <= 47; from++) {
            Due.is("18: from " + from + " on", x.await(from, 123451), NOT);
        }
        Due.is("18: from 48 on", x.await(48, 123451), BAD);
        AcrossOnFoot y = small(JUST, TEN + "/0");
        force(y, "h>43?0;h=20?0;h=28?0;h=4?0;1");
        Due.is("18: by DARK HOURS alone", y.await(0, 123451), NOT);
    }

    /** 18: "the first HOUR from one on, not DARK": by an ebb the deeper PLACES are 10 deep later. */
    private static void awaitAtEachPlace() {
        AcrossOnFoot x = small(new int[] {900}, "3,0,0/0", "4,0,0/0", "5,0,0/0", "6,0,0/0", "7,0,0/0", "8,0,0/0");
        force(x, "12-h");
        for (int place = 0; place < 6; place++) {
            int first = 5 + place;
            for (int from : new int[] {0, 1, 4, 5, first, first + 1, 19}) {
                Due.is("18: at " + place + " from " + from, x.await(100 * place + from, 10), Math.max(first, from));
            }
            Due.is("18: at " + place + " on the next day", x.await(100 * place + 20, 10), 29);
            Due.is("18: at " + place + " to the last", x.await(100 * place + 43, 10), 43);
            Due.is("18: at " + place + " too late", x.await(100 * place + 44, 10), NOT);
        }
    }

    /** 19: "who ... do not STAND ... as one of a ROWED GROUP with LEE 40": 40 and 39 hold, 40 push. */
    private static void mustNotAtZero() {
        AcrossOnFoot x = small(new int[] {407, 310, 407, 310}, TEN + "/0");
        Due.is("19: MARGIN 0, -1, 0, -1", x.mustNot(5), 10);
        // 37 and a tenth of it would be 40
        x.person(SMALL, 134);
        Due.is("19: not as ALONE", x.mustNot(5), 26);
        x.set(3, 1, 40);
        Due.is("19: not with the mean", x.mustNot(5), 18);
    }

    /** 19: "in some CELL": in the first, in the last, in several; and as deep as high. */
    private static void mustNotInSomeCell() {
        for (int cells = 1; cells <= 12; cells++) {
            AcrossOnFoot x = small(new int[] {407, 310}, TEN + (";" + TEN).repeat(cells - 1) + "/0");
            Due.is("19: in each of " + cells + " CELLS", x.mustNot(5), 2);
        }
        for (int i = 0; i < 12; i++) {
            AcrossOnFoot x = small(new int[] {407, 310}, "0,0,0;".repeat(i) + TEN + ";0,0,0".repeat(11 - i) + "/0");
            Due.is("19: CELL " + i, x.mustNot(5), 2);
        }
        AcrossOnFoot x = Due.at("10,0,9/0", "11,0,9/0", "12,0,9/0", "9,0,0;10,0,0/0");
        x.person(3010, 900);
        x.person(3011, 900);
        x.person(3012, 900);
        Due.is("19: 10 deep", x.mustNot(5), 1);
        Due.is("19: 11 deep", x.mustNot(105), 3);
        Due.is("19: 12 deep", x.mustNot(205), 7);
        Due.is("19: in one of two", x.mustNot(305), 1);
    }

    /** 19: "PEOPLE (bits)": of nobody, of eight. */
    private static void nobodyAndEight() {
        AcrossOnFoot x = Due.at("30,30,0/0");
        for (int n = 0; n <= 8; n++) {
            Due.is("19: of " + n, x.mustNot(0), (1 << n) - 1);
            x.person(7018, 420);
        }
        for (int person = 0; person < 8; person++) {
            AcrossOnFoot y = small(new int[] {407, 407, 407, 407, 407, 407, 407, 407}, TEN + "/0");
            setLp(y, person, 310);
            Due.is("19: PERSON " + person, y.mustNot(0), 1 << person);
        }
    }

    /** 19: "PEOPLE ... who": all of them, whatever GROUP was asked about ahead. */
    private static void mustNotOfAll() {
        AcrossOnFoot x = small(new int[] {310, 407, 310}, TEN + "/0");
        Due.is("19: the first and the third", x.mustNot(5), 5);
        x.over(5, 321, 0);
        Due.is("19: behind a GROUP of two", x.mustNot(5), 5);
        x.order(5, 2313, 0);
        Due.is("19: behind a GROUP of three", x.mustNot(5), 5);
        x.wall(2, 0);
        Due.is("19: behind a GROUP of one", x.mustNot(5), 5);
        Due.is("14: a GROUP behind it", x.over(5, 21, 1), -60);
    }

    // ---- promise 20

    /** 20: "each CELL takes t minutes (1 .. 60): CELL i is gone through at HOUR and i t / 60 (cut ...)". */
    private static void midstMinutes() {
        int[][] rows = {
            // HOUR, t, the HOUR at which nobody stands, the first CELL of twelve
            {5, 60, 5, 0}, {5, 60, 6, 1}, {5, 60, 15, 10}, {5, 60, 16, 11}, {5, 60, 17, 12}, {5, 60, 4, 12},
            {5, 1, 5, 0}, {5, 1, 6, 12}, {5, 5, 6, 12}, {5, 6, 6, 10}, {5, 7, 6, 9}, {5, 59, 6, 2}, {5, 59, 7, 3},
            {5, 30, 6, 2}, {5, 30, 10, 10}, {5, 31, 6, 2}, {5, 29, 6, 3}, {5, 20, 8, 9}, {5, 12, 7, 10}, {5, 13, 7, 10},
            {0, 60, 0, 0}, {0, 60, 11, 11}, {47, 60, 47, 0}, {46, 60, 47, 1}, {46, 1, 47, 12}, {36, 60, 47, 11},
        };
        for (int[] row : rows) {
            AcrossOnFoot x = small(new int[] {900}, "0,0,0" + ";0,0,0".repeat(11) + "/0");
            force(x, "h=" + row[2] + "?11");
            Due.is("20: from " + row[0] + ", t " + row[1] + ", " + row[2], x.midst(row[0], 11, row[1], 0), row[3]);
        }
        AcrossOnFoot x = small(new int[] {900}, "0,0,0/0");
        for (int t : new int[] {0, 61, -1, LOWEST, HIGHEST}) {
            Due.is("20: t " + t, x.midst(5, 11, t, 0), BAD);
            Due.is("20: t " + t, x.midst(5, 11, t, 1), BAD);
        }
    }

    /** 20: "(cut; at most 47)". */
    private static void midstAtMost47() {
        for (int i = 0; i < 12; i++) {
            // 2 deep at 47, where CELL i is 11 deep
            String text = "0,0,0;".repeat(i) + "9,0,0" + ";0,0,0".repeat(11 - i) + "/0";
            AcrossOnFoot x = small(new int[] {900}, text);
            force(x, "h=47?2");
            Due.is("20: CELL " + i + " from 47", x.midst(47, 11, 60, 0), i);
            Due.is("20: CELL " + i + " from 46", x.midst(46, 11, 60, 0), i >= 1 ? i : 12);
            Due.is("20: CELL " + i + " from 40", x.midst(40, 11, 60, 0), i >= 7 ? i : 12);
            Due.is("20: CELL " + i + " from 36", x.midst(36, 11, 60, 0), i >= 11 ? i : 12);
            Due.is("20: CELL " + i + " from 35", x.midst(35, 11, 60, 0), 12);
        }
    }

    /** 20: "(how many CELLS there are: none)", BACK "(with i 0: 1; without such a CELL NOT)". */
    private static void midstNone() {
        for (int cells = 1; cells <= 12; cells++) {
            AcrossOnFoot x = small(JUST, TEN + (";" + TEN).repeat(cells - 1) + "/0");
            Due.is("20: none of " + cells, x.midst(5, 123451, 60, 0), cells);
            Due.is("20: BACK without one", x.midst(5, 123451, 60, 1), NOT);
            x.mend(0, cells - 1, 0, 11);
            Due.is("20: the last", x.midst(5, 123451, 60, 0), cells - 1);
            Due.is("20: BACK from the last", x.midst(5, 123451, 60, 1), 1);
            x.mend(0, 0, 0, 11);
            Due.is("20: the first", x.midst(5, 123451, 60, 0), 0);
            Due.is("20: BACK with i 0", x.midst(5, 123451, 60, 1), 1);
        }
    }

    /** 20: "CELLS j = i - 1, i - 2, .. 0 at HOUR and (2 i - 1 - j) t / 60 (cut ...)". */
    private static void backAtTheirHours() {
        // i is 3 (9 deep and 2 at HOUR 13): back by CELLS 2, 1, 0 at 13, 14, 15
        backs("h=13?2", 1);
        backs("h=13?8", 1);
        backs("h=13?9", 0);
        backs("h=13?2;h=14?8", 1);
        backs("h=13?2;h=14?9", 0);
        backs("h=13?2;h=15?8", 1);
        backs("h=13?2;h=15?9", 0);
        backs("h=13?2;h=16?60", 1);
        // t 59: CELL 3 at 12 (177 by 60), back at 12, 13, 14 (236, 295 by 60: 3 and 4)
        AcrossOnFoot x = small(new int[] {900}, "2,0,0;2,0,0;2,0,0;9,0,0/0");
        force(x, "h=12?2;h=13?8;h=14?8;h=15?60");
        Due.is("20: t 59, the CELL", x.midst(10, 11, 59, 0), 3);
        Due.is("20: t 59", x.midst(10, 11, 59, 1), 1);
        force(x, "h=12?2;h=13?9");
        Due.is("20: t 59, CELL 1 at 13", x.midst(10, 11, 59, 1), 0);
        force(x, "h=12?2;h=14?9");
        Due.is("20: t 59, CELL 0 at 14", x.midst(10, 11, 59, 1), 0);
    }

    private static void backs(String law, int back) {
        AcrossOnFoot x = small(new int[] {900}, "2,0,0;2,0,0;2,0,0;9,0,0/0");
        force(x, law);
        Due.is("20: the CELL by " + law, x.midst(10, 11, 60, 0), 3);
        Due.is("20: BACK by " + law, x.midst(10, 11, 60, 1), back);
    }

    /** 20: BACK "(cut; at most 47)": CELL 0 deep at 47 alone. */
    private static void backAtMost47() {
        AcrossOnFoot x = small(new int[] {900}, "10,0,0;0,0,0;0,0,0;11,0,0/0");
        force(x, "h=47?1");
        // i is 3, from 43: CELL 0 at 43 and 5 on the way back: 48, so 47
        Due.is("20: CELL 3", x.midst(43, 11, 60, 0), 3);
        Due.is("20: CELL 0 at 47, by 48", x.midst(43, 11, 60, 1), 0);
        Due.is("20: CELL 0 at 47", x.midst(42, 11, 60, 1), 0);
        Due.is("20: CELL 0 at 46", x.midst(41, 11, 60, 1), 1);
        Due.is("20: CELL 0 at 47, by 51", x.midst(46, 11, 60, 1), 0);
        Due.is("20: CELL 0 at 47, by 52", x.midst(47, 11, 60, 1), 1);
        Due.is("20: CELL 0 at once", x.midst(47, 11, 60, 0), 0);
    }

    /** 20: BACK: "whether ... they come back": all STAND with 0 each; and not, if one has -1 in one of the CELLS. */
    private static void backAtZero() {
        for (int rank = -1; rank < 5; rank++) {
            for (int cell = 0; cell < 3; cell++) {
                // CELL 3 stops them at 13; back at 13, 14, 15, where one CELL is as TEN, and the other ones are shallow
                String text = "0,0,0;".repeat(cell) + "9,9,0;" + "0,0,0;".repeat(2 - cell) + "10,9,0/0";
                AcrossOnFoot x = small(JUST, text);
                force(x, "h>12?1");
                x.mend(0, cell, 1, 10);
                if (rank >= 0) {
                    setLp(x, rank, ONE_LESS[rank]);
                }
                Due.is("20: the CELL", x.midst(10, 123451, 60, 0), 3);
                Due.is("20: CELL " + cell + ", RANK " + rank, x.midst(10, 123451, 60, 1), rank < 0 ? 1 : 0);
            }
        }
    }

    // ---- promises 21 and 22

    /** 21: "the greatest RISE (-20 .. 60, in thought) at which it is OVER; NOT", "NOT is -100 here". */
    private static void lineAtTheBounds() {
        for (int depth = 0; depth <= 30; depth++) {
            AcrossOnFoot x = Due.at(depth + ",0,0/0");
            x.person(3010, 100);
            x.person(3011, 100);
            x.person(3022, 100);
            for (int form = 0; form <= 3; form++) {
                Due.is("21: HEIGHT 10, DEPTH " + depth, x.line(0, 10 + form), depth <= 29 ? 9 - depth : -100);
                Due.is("21: HEIGHT 11, DEPTH " + depth, x.line(0, 20 + form), 10 - depth);
                Due.is("21: HEIGHT 22, DEPTH " + depth, x.line(0, 30 + form), 21 - depth);
            }
            Due.is("21: all of them", x.line(0, 3211), depth <= 29 ? 9 - depth : -100);
        }
        AcrossOnFoot y = small(new int[] {0}, "0,0,0/0", "0,1,0/0", "30,30,0/0");
        Due.is("21: it holds 0, nothing pushes", y.line(0, 11), 10);
        // 10 deep, pace 1: 1 pushes; 9 deep: 0
        Due.is("21: it holds 0", y.line(1, 11), 9);
        // at -20 the pace is 0
        Due.is("21: at -20", y.line(2, 11), -20);
    }

    /** 21: "in thought": no LAW, no HOUR counts. */
    private static void lineInThought() {
        AcrossOnFoot x = small(JUST, TEN + "/0");
        for (String law : new String[] {"60", "-20", "h"}) {
            Due.is("21: LINE", x.line(0, 123451), 0);
            force(x, law);
            Due.is("21: LINE by " + law, x.line(0, 123451), 0);
        }
        Due.is("21: no such PLACE", x.line(1, 123451), VOID);
        Due.is("21: no such PLACE", x.line(-1, 123451), VOID);
        Due.is("21: no such FORM", x.line(0, 123454), VOID);
        Due.is("21: no such GROUP", x.line(0, 1234561), VOID);
    }

    /** 22: "the greatest LINE ...; NOT", "(what 0; NOT), LINE (1; NOT is -100 here). VOID: BAD". */
    private static void wallNot() {
        AcrossOnFoot x = new AcrossOnFoot();
        x.person(3010, 100);
        Due.is("22: no PLACES", x.wall(1, 0), NOT);
        Due.is("22: no PLACES", x.wall(1, 1), -100);
        Due.place(x, "30,0,0/0");
        Due.is("22: OVER at no RISE", x.wall(1, 0), NOT);
        Due.is("22: OVER at no RISE", x.wall(1, 1), -100);
        Due.place(x, "29,0,0/0");
        Due.is("22: OVER at -20", x.wall(1, 0), 10);
        Due.is("22: OVER at -20", x.wall(1, 1), -20);
        for (int group : new int[] {0, 2, 11, -1, 9, 10, 123456, LOWEST, HIGHEST}) {
            Due.is("22: GROUP " + group, x.wall(group, 0), VOID);
            Due.is("22: GROUP " + group, x.wall(group, 1), VOID);
        }
        Due.is("22: what 2", x.wall(1, 2), VOID);
        Due.is("22: what -1", x.wall(1, -1), VOID);
        Due.is("22: VOID goes ahead of NOT", new AcrossOnFoot().wall(1, 0), VOID);
    }

    /** 22: "of all PLACES and FORMS ... (of like ones the first PLACE, then FORM)". */
    private static void likeWalls() {
        String[] like = {TEN + "/0", TEN + "/0", TEN + "/0", TEN + "/0", TEN + "/0", TEN + "/0"};
        AcrossOnFoot x = small(JUST, like);
        // five with 0 each ROWED: LINE 0; in all other FORMS less, for HEIGHT is 11
        Due.is("22: the first PLACE, FORM 1", x.wall(12345, 0), 1);
        Due.is("22: LINE", x.wall(12345, 1), 0);
        Due.is("22: of one the first FORM", x.wall(1, 0), 0);
        for (int place = 0; place < 5; place++) {
            x.mend(place, 0, 0, 11);
            Due.is("22: the next PLACE", x.wall(12345, 0), 10 * (place + 1) + 1);
        }
        x.mend(2, 0, 0, 9);
        Due.is("22: a greater LINE", x.wall(12345, 0), 21);
        Due.is("22: LINE", x.wall(12345, 1), 1);
        AcrossOnFoot y = small(new int[] {517, 606, 606}, TEN + "/0", "9,10,0/0");
        Due.is("22: HOLD 100, 54, 54: FORM 2 at PLACE 1", y.wall(123, 0), 12);
        AcrossOnFoot w = small(new int[] {926, 100}, TEN + "/0");
        // at -1 it is 9 deep, pace 9: 288 and 6 hold, the mean is 147, 76 hold the weak one by 72; at 0 67 by 100
        Due.is("22: FORM 3", w.wall(12, 0), 3);
        Due.is("22: LINE", w.wall(12, 1), -1);
    }

    // ---- promise 23

    /** 23: "each ... whose MARGIN is below the sum of halves (cut) of PUSHES of the fallen next to it": one less, as much. */
    private static void ropedAtZero() {
        // ROWED: RANK 1 pushes 85, so 42 pull; RANK 2, of LEE 70, holds 112, 111
        AcrossOnFoot x = small(new int[] {940, 900, 811, 334}, TEN + "/0");
        Due.is("13: MARGIN 42", x.margin(0, 1231, 200, 0), 42);
        Due.is("23: 42 is not below 42", x.roped(0, 1231, 100), 2);
        Due.is("13: MARGIN 41", x.margin(0, 1241, 200, 0), 41);
        Due.is("23: 41 is below 42", x.roped(0, 1241, 100), 6);
        // RANK 2 pushes 70, so 35 pull; RANK 1, of LEE 85, holds 120, 119
        AcrossOnFoot y = small(new int[] {940, 617, 714, 900}, TEN + "/0");
        Due.is("13: MARGIN 35", y.margin(0, 1241, 100, 0), 35);
        Due.is("23: 35 is not below 35", y.roped(0, 1241, 200), 4);
        Due.is("13: MARGIN 34", y.margin(0, 1341, 100, 0), 34);
        Due.is("23: 34 is below 35", y.roped(0, 1341, 200), 6);
    }

    /** 23: "halves (cut)": by ALONE, 10 deep, pace 3, 9 push: 4 by one, 8 by two, not 9. */
    private static void ropedHalvesAreCut() {
        AcrossOnFoot x = small(new int[] {100, 109, 108, 113, 112, 100}, "10,3,0/0");
        int[] margins = {-6, 4, 3, 8, 7};
        for (int person = 0; person < 5; person++) {
            Due.is("13: MARGIN of " + person, x.margin(0, 10 * person + 10, 0, 0), margins[person]);
        }
        Due.is("23: 4 is not below 4", x.roped(0, 120, 0), 1);
        Due.is("23: 3 is below 4", x.roped(0, 130, 0), 3);
        Due.is("23: 8 is not below 4 and 4", x.roped(0, 1460, 0), 5);
        Due.is("23: 7 is below 4 and 4", x.roped(0, 1560, 0), 7);
    }

    /** 23: "next to it (one RANK more, one less; 0 without)". */
    private static void ropedNextOnly() {
        // 100 push; MARGIN 10 (HOLD 100 and 10)
        AcrossOnFoot x = small(new int[] {517, 517, 517, 517, 517}, "10,10,0;0,0,0/0");
        Due.is("13: MARGIN", x.margin(0, 10, 0, 0), 10);
        for (int rank = 0; rank < 5; rank++) {
            Due.is("23: one after the other: " + rank, x.roped(0, 123450, 100 * rank), 31);
            Due.is("23: nothing pushes", x.roped(0, 123450, 100 * rank + 1), 1 << rank);
        }
        // one who stands by himself parts them
        setLp(x, 2, 940);
        int[] due = {3, 3, 31, 24, 24};
        for (int rank = 0; rank < 5; rank++) {
            Due.is("23: the strong one in the middle, " + rank, x.roped(0, 123450, 100 * rank), due[rank]);
        }
        // ALONE 91 and 9, 90 and 9 hold: MARGIN 0, -1, 325
        AcrossOnFoot y = small(new int[] {710, 907, 940, 939}, TEN + "/0");
        Due.is("23: MARGIN 0 stays without a fallen one next to it", y.roped(0, 3410, 0), 1);
        Due.is("23: MARGIN -1 falls without a fallen one next to it", y.roped(0, 3420, 0), 5);
        Due.is("23: MARGIN 0 falls with one", y.roped(0, 3410, 100), 6);
        Due.is("23: one RANK alone", y.roped(0, 30, 0), 1);
    }

    /** 23: "(all at once, by those who had fallen ahead)", "again and again": to the end of five. */
    private static void ropedAllAtOnce() {
        // ALONE: 100 push, so 50 pull by one, 100 by two; MARGINS are 10, and 59 (HOLD 145 and 14)
        AcrossOnFoot x = small(new int[] {517, 517, 517, 517, 526}, TEN + "/0");
        Due.is("13: MARGIN", x.margin(0, 50, 0, 0), 59);
        Due.is("23: 59 is above 50", x.roped(0, 150, 0), 1);
        Due.is("23: 59 between one who falls and one who stands", x.roped(0, 1520, 0), 1);
        Due.is("23: again and again, but for the last", x.roped(0, 123450, 0), 15);
        Due.is("23: again and again, but for the first", x.roped(0, 543210, 400), 30);
        Due.is("23: both ways, but for the last", x.roped(0, 123450, 200), 15);
        Due.is("23: 59 parts them", x.roped(0, 125340, 0), 3);
        setLp(x, 4, 517);
        Due.is("23: from the first to the last", x.roped(0, 123450, 0), 31);
        Due.is("23: from the last to the first", x.roped(0, 123450, 400), 31);
        // 90 and 9 hold: that one falls by itself; one round later 59 is below what pulls from both sides
        setLp(x, 4, 526);
        setLp(x, 3, 907);
        Due.is("23: one by itself, then the one between, and the next", x.roped(0, 15420, 0), 15);
        Due.is("23: 59 with a fallen one at each side", x.roped(0, 1540, 0), 7);
    }
}
