/** Promises 1 to 9: each sentence that names a bound has a test of its own; its remark tells promise and sentence. */
public final class RiverBoundTests {
    private static final int BAD = -1, FULL = -3, VOID = -2000000000;
    private static final int LOWEST = Integer.MIN_VALUE, HIGHEST = Integer.MAX_VALUE;
    private static final String CELL = "1,2,3";

    private RiverBoundTests() {
    }

    public static void main(String[] args) {
        nothingAtFirst();
        eachObjectForItself();
        fiveHundredAndTwelveCalls();
        oneToFourBytes();
        lowestFirst();
        tapeOf120();
        tapeIsEmptiedAndFilledAgain();
        sixPlaces();
        fullGoesAheadOfFault();
        depthAndPace();
        numberAbove30();
        oneOrTwoDigits();
        bedAndBelow();
        oneToTwelveCells();
        longestPlace();
        noBlanksInPlaces();
        placesEndTooEarly();
        signsOfPlaces();
        faultEmptiesTheTape();
        cellOfEachPlace();
        depthIs0AtLeast();
        paceByTwentieths();
        waterAtTheHour();
        mendToTheBounds();
        mendOneOnly();
        fourLaws();
        fullLawsGoAheadOfFault();
        numbersOfFourDigits();
        linesByOneOrMore();
        oneQuestionALine();
        oneComparison();
        chainsOfNoneOrMore();
        whatIsJoinedFirst();
        sixOpenAtOnce();
        openedAndClosedAgain();
        noBlanksInLaws();
        lawsEndTooEarly();
        signsOfLaws();
        lawOf120Bytes();
        lawFaultEmptiesTheTape();
        forceNoneToLast();
        rainAndIce();
        riseIsHeld();
        hoursOfTheDay();
        dividedBy0();
        towardZero();
        intsWrap();
        signsGive1And0();
        comparedAtTheBound();
        firstLineThatCounts();
        Due.end();
    }

    private static AcrossOnFoot withLaw(String text) {
        AcrossOnFoot x = new AcrossOnFoot();
        Due.is("6: " + text, Due.law(x, text), 0);
        return x;
    }

    private static int rise(String text, int hour) {
        return withLaw(text).rise(0, hour);
    }

    private static void rises(String text, int due) {
        Due.is("9: " + text, rise(text, 0), due);
    }

    private static void placeFault(String text, int fault) {
        Due.is("3: " + text, Due.place(new AcrossOnFoot(), text), -100 - fault);
    }

    private static void lawFault(String text, int fault) {
        Due.is("6: " + text, Due.law(new AcrossOnFoot(), text), -100 - fault);
    }

    // ---- promise 1

    /** 1: "No places, no people"; "0 at first", "none at first", "hold nothing (at first)". */
    private static void nothingAtFirst() {
        for (int what = 0; what <= 7; what++) {
            Due.is("1: count(" + what + ")", new AcrossOnFoot().count(what), 0);
        }
        AcrossOnFoot x = new AcrossOnFoot();
        Due.is("1: RAIN", x.sky(0, 1), 0);
        Due.is("1: ICE", x.sky(1, 1), 0);
        Due.is("1: no LAW is IN FORCE", x.force(-1), -1);
        Due.is("1: nothing to undo", x.undo(), -5);
        Due.is("1: nothing to do again", x.redo(), -5);
        Due.is("1: no trace", x.trace(0), BAD);
        for (int shelf = 0; shelf <= 5; shelf++) {
            Due.is("1: SHELF " + shelf, x.put(shelf, 0, 1), -11);
        }
        Due.is("1: no PLACE", x.cell(0, -1, 0, 0), BAD);
        Due.is("1: no PERSON", x.of(0, 0), BAD);
        Due.is("1: no LAW", x.rise(0, 0), VOID);
        Due.is("1: no BODY", x.keep(0, 0), BAD);
    }

    /** 1: "A new object": what one holds is not another's. */
    private static void eachObjectForItself() {
        AcrossOnFoot ahead = new AcrossOnFoot();
        AcrossOnFoot full = Samples.full();
        AcrossOnFoot behind = new AcrossOnFoot();
        for (int what = 0; what <= 7; what++) {
            Due.is("1: an older object's count(" + what + ")", ahead.count(what), 0);
            Due.is("1: a newer object's count(" + what + ")", behind.count(what), 0);
        }
        Due.is("1: the full one's places", full.count(0), 6);
        Due.is("1: its LAW IN FORCE", full.force(-1), 3);
        Due.is("1: the newer one's", behind.force(-1), -1);
    }

    /** 1: "An object is used for at most 512 calls after it has been made". */
    private static void fiveHundredAndTwelveCalls() {
        AcrossOnFoot x = new AcrossOnFoot();
        x.feed(1, 'h');
        for (int n = 2; n <= 510; n++) {
            Due.is("1: call " + n, x.count(4), 1);
        }
        Due.is("1: call 511", x.law(), 0);
        Due.is("1: call 512", x.rise(0, 47), 47);
    }

    // ---- promise 2

    /** 2: "n (1 .. 4) bytes come to THE TAPE ... : how many it has". */
    private static void oneToFourBytes() {
        for (int n = 1; n <= 4; n++) {
            AcrossOnFoot x = new AcrossOnFoot();
            Due.is("2: " + n + " bytes", x.feed(n, '1'), n);
            Due.is("2: " + n + " more", x.feed(n, '1'), 2 * n);
            Due.is("2: it has them", x.count(4), 2 * n);
        }
        AcrossOnFoot x = new AcrossOnFoot();
        for (int n : new int[] {0, 5, -1, 8, LOWEST, HIGHEST}) {
            Due.is("2: " + n + " bytes", x.feed(n, '1'), BAD);
        }
        Due.is("2: none came", x.count(4), 0);
    }

    /** 2: "the lowest of v first", of which only n count. */
    private static void lowestFirst() {
        AcrossOnFoot x = new AcrossOnFoot();
        x.feed(4, '1' | '2' << 8 | '-' << 16 | '7' << 24);
        x.feed(1, '0' | '9' << 8);
        Due.is("2: 12-70", x.law(), 0);
        Due.is("2: its rise is held", x.rise(0, 0), -20);
        x.feed(2, '5' | '0' << 8 | '9' << 16);
        Due.is("2: 50", x.law(), 1);
        Due.is("2: its rise", x.rise(1, 0), 50);
        x.feed(3, 'h' | '-' << 8 | '1' << 16 | '9' << 24);
        Due.is("2: h-1", x.law(), 2);
        Due.is("2: its rise", x.rise(2, 9), 8);
        x.feed(1, 'h' | 0xffffff00);
        Due.is("2: h, above it all bits", x.law(), 3);
        AcrossOnFoot y = new AcrossOnFoot();
        y.feed(4, 'h' | '+' << 8 | '1' << 16 | 0xff << 24);
        Due.is("2: a byte of 255 is one", y.law(), -103);
        y.feed(4, LOWEST);
        Due.is("2: a byte of 128 is one", y.count(4), 4);
    }

    /** 2: "THE TAPE (at most 120 bytes)", "BAD, FULL (120)": what is too many does not come in part either. */
    private static void tapeOf120() {
        String text = "0+".repeat(59) + "07";
        for (int free = 0; free <= 4; free++) {
            for (int n = 1; n <= 4; n++) {
                AcrossOnFoot x = new AcrossOnFoot();
                Due.feed(x, text.substring(0, 120 - free));
                int came = n <= free ? n : 0;
                int v = n <= free ? Due.packed(text, 120 - free) : '9' | '9' << 8 | '9' << 16 | '9' << 24;
                Due.is("2: " + n + " to " + (120 - free), x.feed(n, v), n <= free ? 120 - free + n : FULL);
                Due.is("2: it has then", x.count(4), 120 - free + came);
                Due.feed(x, text.substring(120 - free + came));
                Due.is("2: one more", x.feed(1, '9'), FULL);
                Due.is("2: BAD goes ahead of FULL", x.feed(0, '9'), BAD);
                Due.is("2: BAD goes ahead of FULL", x.feed(5, '9'), BAD);
                Due.is("6: the text", x.law(), 0);
                Due.is("9: its rise", x.rise(0, 0), 7);
            }
        }
    }

    /** 2: THE TAPE that was emptied takes 120 bytes again. */
    private static void tapeIsEmptiedAndFilledAgain() {
        AcrossOnFoot x = new AcrossOnFoot();
        for (int round = 0; round < 4; round++) {
            for (int n = 1; n <= 30; n++) {
                Due.is("2: round " + round, x.feed(4, '1' | '+' << 8 | '0' << 16 | '-' << 24), 4 * n);
            }
            Due.is("2: full", x.feed(1, '1'), FULL);
            Due.is("3: no place begins by 1+", x.place(), -101);
            Due.is("2: empty", x.count(4), 0);
        }
    }

    // ---- promise 3

    /** 3: "PLACES 0 .. 5, as they come", "FULL: 6 (it stays)". */
    private static void sixPlaces() {
        AcrossOnFoot x = new AcrossOnFoot();
        for (int n = 0; n < 6; n++) {
            Due.is("3: place " + n, Due.place(x, n + ",0,0/" + n), n);
            Due.is("3: so many", x.count(0), n + 1);
            Due.is("3: the tape is empty", x.count(4), 0);
        }
        Due.is("3: the seventh", Due.place(x, "9,9,9/9"), FULL);
        Due.is("3: six", x.count(0), 6);
        Due.is("3: there is no seventh", x.cell(6, -1, 0, 0), BAD);
        for (int n = 0; n < 6; n++) {
            Due.is("3: its depth", x.cell(n, 0, 0, 0), n);
            Due.is("3: its below", x.cell(n, -1, 1, 0), n);
        }
        Due.is("3: the tape stays", x.count(4), 7);
        Due.is("6: it is no law", x.law(), -101);
        Due.feed(x, "h+1");
        Due.is("3: full", x.place(), FULL);
        Due.is("6: the tape stays, byte by byte", x.law(), 0);
        Due.is("9: h+1", x.rise(0, 6), 7);
    }

    /** 3: "place(), law(): FULL goes ahead of all (THE TAPE stays)". */
    private static void fullGoesAheadOfFault() {
        AcrossOnFoot x = Due.at("0,0,0/0", "0,0,0/1", "0,0,0/2", "0,0,0/3", "0,0,0/4", "0,0,0/5");
        Due.is("3: full, the tape is empty", x.place(), FULL);
        Due.feed(x, "x");
        Due.is("3: full, no text goes on", x.place(), FULL);
        Due.is("3: the tape stays", x.count(4), 1);
        x.law();
        Due.feed(x, "31,0,0/0");
        Due.is("3: full, a number above 30", x.place(), FULL);
        Due.is("3: the tape stays", x.count(4), 8);
    }

    /** 3: "DEPTH and PACE 1 or 2 digits (0 .. 30 each)". */
    private static void depthAndPace() {
        for (int told = 0; told <= 99; told++) {
            String[] ways = told < 10 ? new String[] {"" + told, "0" + told} : new String[] {"" + told};
            for (String way : ways) {
                AcrossOnFoot x = new AcrossOnFoot();
                boolean may = told <= 30;
                Due.is("3: DEPTH " + way, Due.place(x, way + ",7,3/1"), may ? 0 : -100);
                Due.is("3: it is told", x.cell(0, 0, 0, 0), may ? told : BAD);
                AcrossOnFoot y = new AcrossOnFoot();
                Due.is("3: PACE " + way, Due.place(y, "7," + way + ",3/1"), may ? 0 : -102);
                Due.is("3: it is told", y.cell(0, 0, 1, 0), may ? told : BAD);
            }
        }
    }

    /** 3: "(a number above 30: its first digit ...)". */
    private static void numberAbove30() {
        placeFault("31", 0);
        placeFault("31,", 0);
        placeFault("31x", 0);
        placeFault("311", 0);
        placeFault("40", 0);
        placeFault("99", 0);
        placeFault("1,31", 2);
        placeFault("1,31,1/1", 2);
        placeFault("30,31,1/1", 3);
        placeFault("1,2,3;31,1,1/1", 6);
        placeFault("1,2,3;30,31,1/1", 9);
        placeFault((CELL + ";").repeat(11) + "1,99,1/1", 68);
        placeFault("3", 1);
        placeFault("3,", 2);
        placeFault("30", 2);
    }

    /** 3: "DEPTH and PACE 1 or 2 digits": neither none nor three. */
    private static void oneOrTwoDigits() {
        placeFault(",1,1/1", 0);
        placeFault("1,,1/1", 2);
        placeFault("000,1,1/1", 2);
        placeFault("300,1,1/1", 2);
        placeFault("123,1,1/1", 2);
        placeFault("1,000,1/1", 4);
        placeFault("1,300,1/1", 4);
        placeFault("1,2,3;100,1,1/1", 8);
        placeFault("-1,1,1/1", 0);
        placeFault("+1,1,1/1", 0);
    }

    /** 3: "BED a digit 0 .. 9", "BELOW: a digit 0 .. 9". */
    private static void bedAndBelow() {
        for (int digit = 0; digit <= 9; digit++) {
            AcrossOnFoot x = new AcrossOnFoot();
            Due.is("3: BED " + digit, Due.place(x, "1,2," + digit + "/" + (9 - digit)), 0);
            Due.is("3: it is told", x.cell(0, 0, 2, 0), digit);
            Due.is("3: BELOW", x.cell(0, -1, 1, 0), 9 - digit);
        }
        placeFault("1,2,/1", 4);
        placeFault("1,2,;", 4);
        placeFault("1,2,10/1", 5);
        placeFault("1,2,00/1", 5);
        placeFault("1,2,3/", 6);
        placeFault("1,2,3/10", 7);
        placeFault("1,2,3/00", 7);
        placeFault("1,2,3/-1", 6);
        placeFault("1,2,3/1;", 7);
        placeFault("1,2,3/1/", 7);
        placeFault("1,2,3/1,", 7);
    }

    /** 3: "1 to 12 CELLS", "(... a thirteenth CELL: its ;)". */
    private static void oneToTwelveCells() {
        placeFault("/5", 0);
        placeFault(";" + CELL + "/5", 0);
        for (int cells = 1; cells <= 12; cells++) {
            AcrossOnFoot x = new AcrossOnFoot();
            StringBuilder text = new StringBuilder();
            for (int i = 0; i < cells; i++) {
                text.append(i == 0 ? "" : ";").append(i).append(',').append(30 - i).append(",").append(i % 10);
            }
            Due.is("3: " + cells + " cells", Due.place(x, text + "/5"), 0);
            Due.is("4: so many", x.cell(0, -1, 0, 0), cells);
            for (int i = 0; i < cells; i++) {
                Due.is("4: from the near side", x.cell(0, i, 0, 0), i);
                Due.is("4: from the near side", x.cell(0, i, 1, 0), 30 - i);
                Due.is("4: from the near side", x.cell(0, i, 2, 0), i % 10);
            }
            Due.is("4: there is none behind", x.cell(0, cells, 0, 0), BAD);
        }
        String twelve = CELL + (";" + CELL).repeat(11);
        placeFault(twelve, 71);
        placeFault(twelve + ";", 71);
        placeFault(twelve + ";/5", 71);
        placeFault(twelve + ";1,2,3/5", 71);
        placeFault(twelve + ";99", 71);
        placeFault(twelve + "/", 72);
    }

    /** 3: the longest text that is a PLACE. */
    private static void longestPlace() {
        AcrossOnFoot x = new AcrossOnFoot();
        Due.is("3: 97 bytes", Due.place(x, "30,30,9" + ";30,30,9".repeat(11) + "/9"), 0);
        Due.is("3: the last cell's depth", x.cell(0, 11, 0, 0), 30);
        Due.is("3: the last cell's pace", x.cell(0, 11, 1, 0), 30);
        Due.is("3: the last cell's bed", x.cell(0, 11, 2, 0), 9);
        placeFault("30,30,9" + ";30,30,9".repeat(11) + "/9" + "0".repeat(23), 97);
    }

    /** 3: "No blanks." */
    private static void noBlanksInPlaces() {
        String text = "13,24,5;6,7,8/9";
        for (int at = 0; at <= text.length(); at++) {
            placeFault(text.substring(0, at) + " " + text.substring(at), at);
            placeFault(text.substring(0, at) + "\t" + text.substring(at), at);
            placeFault(text.substring(0, at) + "\n" + text.substring(at), at);
            placeFault(text.substring(0, at) + "\0" + text.substring(at), at);
        }
    }

    /** 3: "the length, if it ends too early". */
    private static void placesEndTooEarly() {
        String text = "13,24,5;6,07,8" + ";30,30,9".repeat(10) + "/9";
        for (int length = 0; length < text.length(); length++) {
            placeFault(text.substring(0, length), length);
        }
        Due.is("3: the whole text", Due.place(new AcrossOnFoot(), text), 0);
    }

    /** 3: "the place (from 0) of the first byte with which no text goes on": of all bytes at some places. */
    private static void signsOfPlaces() {
        for (char sign = 0; sign <= 255; sign++) {
            boolean digit = sign >= '0' && sign <= '9';
            String end = ",7,3/1";
            Due.is("3: first " + (int) sign, Due.place(new AcrossOnFoot(), sign + end), digit ? 0 : -100);
            Due.is("3: as PACE " + (int) sign, Due.place(new AcrossOnFoot(), "7," + sign + ",3/1"), digit ? 0 : -102);
            Due.is("3: as BED " + (int) sign, Due.place(new AcrossOnFoot(), "7,7," + sign + "/1"), digit ? 0 : -104);
            Due.is("3: as BELOW " + (int) sign, Due.place(new AcrossOnFoot(), "7,7,3/" + sign), digit ? 0 : -106);
            boolean comma = sign == ',';
            Due.is("3: behind 17 " + (int) sign, Due.place(new AcrossOnFoot(), "17" + sign + "7,3/1"), comma ? 0 : -102);
            Due.is("3: behind BED " + (int) sign, Due.place(new AcrossOnFoot(), "7,7,3" + sign + "1"),
                sign == '/' ? 0 : sign == ';' ? -107 : -105);
            Due.is("3: behind BELOW " + (int) sign, Due.place(new AcrossOnFoot(), "7,7,3/1" + sign), -107);
        }
    }

    /** 3: "a FAULT empties THE TAPE", "THE TAPE is empty then", and no PLACE came. */
    private static void faultEmptiesTheTape() {
        AcrossOnFoot x = Due.at("5,6,7/8");
        Due.is("3: empty behind a place", x.place(), -100);
        for (String text : new String[] {"x", "9", "9,9,9;", "9,9,9;9,9,9", "31,1,1/1", "9,9,9/9x", "9,9,9;9,9,9;9,9,9/"}) {
            Due.holds("3: " + text, Due.place(x, text) <= -100);
            Due.is("3: the tape is empty", x.count(4), 0);
            Due.is("3: no place came", x.count(0), 1);
            Due.is("3: the first place's depth", x.cell(0, 0, 0, 0), 5);
            Due.is("3: the first place's cells", x.cell(0, -1, 0, 0), 1);
        }
        Due.is("3: what comes next is read from its begin", Due.place(x, "1,2,3/4"), 1);
        Due.is("3: it has one cell", x.cell(1, -1, 0, 0), 1);
        Due.is("3: its depth", x.cell(1, 0, 0, 0), 1);
    }

    // ---- promise 4

    /** 4: "Of CELL i of a PLACE", "Of CELL -1": in six PLACES of 1 to 12 CELLS. */
    private static void cellOfEachPlace() {
        AcrossOnFoot x = new AcrossOnFoot();
        int[] cells = {12, 1, 5, 12, 2, 12};
        for (int place = 0; place < 6; place++) {
            String cell = (place + 1) + "," + (place + 11) + "," + place;
            Due.place(x, cell + (";" + cell).repeat(cells[place] - 1) + "/" + (place + 3));
        }
        for (int place = 0; place < 6; place++) {
            Due.is("4: cells", x.cell(place, -1, 0, HIGHEST), cells[place]);
            Due.is("4: below", x.cell(place, -1, 1, LOWEST), place + 3);
            for (int i : new int[] {0, cells[place] - 1}) {
                int[] due = {place + 1, place + 11, place, place + 1, place + 11};
                for (int what = 0; what <= 4; what++) {
                    Due.is("4: " + place + " " + i + " " + what, x.cell(place, i, what, 47), due[what]);
                }
            }
            Due.is("4: behind the last cell", x.cell(place, cells[place], 0, 0), BAD);
            Due.is("4: ahead of CELL -1", x.cell(place, -2, 0, 0), BAD);
        }
        Due.is("4: behind the last place", x.cell(6, 0, 0, 0), BAD);
    }

    /** 4: "a CELL has DEPTH and e, 0 at least". */
    private static void depthIs0AtLeast() {
        AcrossOnFoot x = Due.at("3,0,0;0,0,0;20,0,0;30,0,0/0");
        Due.law(x, "h-20");
        x.force(0);
        for (int hour = 0; hour < 48; hour++) {
            int e = hour - 20;
            Due.is("4: 3 and " + e, x.cell(0, 0, 3, hour), e < -3 ? 0 : 3 + e);
            Due.is("4: 0 and " + e, x.cell(0, 1, 3, hour), e < 0 ? 0 : e);
            Due.is("4: 20 and " + e, x.cell(0, 2, 3, hour), 20 + e);
            Due.is("4: 30 and " + e, x.cell(0, 3, 3, hour), 30 + e);
        }
        AcrossOnFoot y = Due.at("30,30,0;0,0,0/0");
        Due.law(y, "99");
        y.force(0);
        Due.is("4: the greatest depth", y.cell(0, 0, 3, 0), 90);
        Due.is("4: the greatest rise", y.cell(0, 1, 3, 0), 60);
    }

    /** 4: "PACE times (20 and e) by 20 (cut)". */
    private static void paceByTwentieths() {
        AcrossOnFoot x = Due.at("0,1,0;0,19,0;0,20,0;0,30,0;0,0,0/0");
        Due.law(x, "h-20");
        Due.law(x, "60");
        x.force(0);
        int[][] due = {
            // e, then 1, 19, 20, 30, 0 by it
            {-20, 0, 0, 0, 0, 0}, {-19, 0, 0, 1, 1, 0}, {-18, 0, 1, 2, 3, 0}, {-1, 0, 18, 19, 28, 0}, {0, 1, 19, 20, 30, 0},
            {1, 1, 19, 21, 31, 0}, {19, 1, 37, 39, 58, 0}, {20, 2, 38, 40, 60, 0},
        };
        for (int[] row : due) {
            for (int i = 0; i < 5; i++) {
                Due.is("4: pace of CELL " + i + " by " + row[0], x.cell(0, i, 4, row[0] + 20), row[i + 1]);
            }
        }
        x.force(1);
        Due.is("4: the greatest pace", x.cell(0, 3, 4, 0), 120);
        Due.is("4: 1 by 60", x.cell(0, 0, 4, 0), 4);
        Due.is("4: as told", x.cell(0, 3, 1, 0), 30);
    }

    /** 4: "3, 4 depth, pace at an HOUR": by the LAW IN FORCE, "(none at first: RISE 0)", from HOUR 0 to 47. */
    private static void waterAtTheHour() {
        AcrossOnFoot x = Due.at("5,20,0/0");
        Due.law(x, "h=0?1;h=47?2;h=46?3");
        Due.law(x, "9");
        for (int hour : new int[] {0, 1, 46, 47}) {
            Due.is("4: no LAW is IN FORCE", x.cell(0, 0, 3, hour), 5);
            Due.is("4: no LAW is IN FORCE", x.cell(0, 0, 4, hour), 20);
        }
        x.force(0);
        int[][] due = {{0, 1}, {1, 0}, {45, 0}, {46, 3}, {47, 2}};
        for (int[] row : due) {
            Due.is("4: depth at " + row[0], x.cell(0, 0, 3, row[0]), 5 + row[1]);
            Due.is("4: pace at " + row[0], x.cell(0, 0, 4, row[0]), 20 + row[1]);
        }
    }

    // ---- promise 5

    /** 5: "DEPTH, PACE, BED (what 0, 1, 2) of CELL i of a PLACE becomes v: what it was": to the least and the greatest. */
    private static void mendToTheBounds() {
        int[] greatest = {30, 30, 9};
        AcrossOnFoot x = Due.at("3,4,5;6,7,8/1", "1,2,3" + ";1,2,3".repeat(10) + ";4,5,6/1");
        int[][] cells = {{0, 0, 3, 4, 5}, {0, 1, 6, 7, 8}, {1, 0, 1, 2, 3}, {1, 11, 4, 5, 6}};
        for (int[] c : cells) {
            for (int what = 0; what <= 2; what++) {
                String call = "5: mend(" + c[0] + ", " + c[1] + ", " + what + ", ";
                Due.is(call + greatest[what] + ")", x.mend(c[0], c[1], what, greatest[what]), c[2 + what]);
                Due.is(call + "0)", x.mend(c[0], c[1], what, 0), greatest[what]);
                Due.is(call + "too much)", x.mend(c[0], c[1], what, greatest[what] + 1), BAD);
                Due.is(call + "-1)", x.mend(c[0], c[1], what, -1), BAD);
                Due.is("4: it is 0", x.cell(c[0], c[1], what, 0), 0);
            }
        }
        Due.is("5: BELOW can not be mended", x.mend(0, -1, 1, 5), BAD);
        Due.is("4: it is as it was", x.cell(0, -1, 1, 0), 1);
    }

    /** 5: it becomes v in that CELL, and in no other. */
    private static void mendOneOnly() {
        for (int i = 0; i < 4; i++) {
            for (int what = 0; what <= 2; what++) {
                AcrossOnFoot x = Due.at("1,1,1;1,1,1/1", "1,1,1;1,1,1/1");
                x.mend(i / 2, i % 2, what, 9);
                for (int k = 0; k < 12; k++) {
                    int told = x.cell(k / 6, k / 3 % 2, k % 3, 0);
                    Due.is("5: CELL " + i + ", " + what + ": " + k, told, k == 3 * i + what ? 9 : 1);
                }
            }
        }
    }

    // ---- promise 6

    /** 6: "LAWS 0 .. 3, as they come", "FULL: 4 (it stays)". */
    private static void fourLaws() {
        AcrossOnFoot x = new AcrossOnFoot();
        for (int n = 0; n < 4; n++) {
            Due.is("6: law " + n, Due.law(x, "h+" + n), n);
            Due.is("6: so many", x.count(1), n + 1);
            Due.is("6: the tape is empty", x.count(4), 0);
        }
        Due.is("6: the fifth", Due.law(x, "1,2,3/4"), FULL);
        Due.is("6: four", x.count(1), 4);
        Due.is("9: there is no fifth", x.rise(4, 0), VOID);
        for (int n = 0; n < 4; n++) {
            Due.is("9: law " + n, x.rise(n, 10), 10 + n);
        }
        Due.is("6: the tape stays", x.count(4), 7);
        Due.is("3: byte by byte", x.place(), 0);
        Due.is("4: DEPTH", x.cell(0, 0, 0, 0), 1);
        Due.is("4: BELOW", x.cell(0, -1, 1, 0), 4);
    }

    /** 6: "place(), law(): FULL goes ahead of all (THE TAPE stays)". */
    private static void fullLawsGoAheadOfFault() {
        AcrossOnFoot x = new AcrossOnFoot();
        for (int n = 0; n < 4; n++) {
            Due.law(x, "0");
        }
        Due.is("6: full, the tape is empty", x.law(), FULL);
        Due.feed(x, "z");
        Due.is("6: full, no text goes on", x.law(), FULL);
        Due.is("6: the tape stays", x.count(4), 1);
        x.place();
        Due.feed(x, "1+");
        Due.is("6: full, it ends too early", x.law(), FULL);
        Due.is("6: the tape stays", x.count(4), 2);
    }

    /** 6: "a number (1 to 4 digits)". */
    private static void numbersOfFourDigits() {
        String[] numbers = {"0", "7", "00", "59", "000", "100", "0000", "0042", "1000", "9999"};
        for (String number : numbers) {
            rises(number, Math.min(60, Integer.parseInt(number)));
            rises(number + "/100", Integer.parseInt(number) / 100 > 60 ? 60 : Integer.parseInt(number) / 100);
        }
        rises("9999-9949", 50);
        lawFault("00000", 4);
        lawFault("12345", 4);
        lawFault("10000", 4);
        lawFault("1+12345", 6);
        lawFault("(12345)", 5);
        lawFault("1?12345", 6);
        lawFault("1;12345", 6);
    }

    /** 6: "LINES, one or more, parted by ;". */
    private static void linesByOneOrMore() {
        lawFault("", 0);
        lawFault(";", 0);
        lawFault("1;", 2);
        lawFault(";1", 0);
        lawFault("1;;1", 2);
        lawFault("1;1;", 4);
        lawFault("0?1;", 4);
        lawFault("(1;1)", 2);
        for (int lines = 1; lines <= 30; lines++) {
            rises("0?1;".repeat(lines - 1) + lines, lines);
            rises("0?7" + ";0?7".repeat(lines - 1), 0);
        }
        rises("1" + ";2".repeat(59), 1);
    }

    /** 6: "LINE: E, or E ? E". */
    private static void oneQuestionALine() {
        rises("1?2", 2);
        rises("1?2;1?3", 2);
        lawFault("?", 0);
        lawFault("?2", 0);
        lawFault("1?", 2);
        lawFault("1??2", 2);
        lawFault("1?;2", 2);
        lawFault("1?2?3", 3);
        lawFault("1?2?", 3);
        lawFault("1;1?2?3", 5);
        lawFault("(1?2)", 2);
        lawFault("1?(2?3)", 4);
        lawFault("(1)?(2)?", 7);
    }

    /** 6: "B = S, or S < S, S = S, S > S": one at most, until ( ) or & or | or ? or ; begin another. */
    private static void oneComparison() {
        for (char one : "<=>".toCharArray()) {
            for (char other : "<=>".toCharArray()) {
                lawFault("1" + one + "2" + other + "3", 3);
                lawFault("1" + one + "2+1" + other + "3", 5);
                lawFault("(1" + one + "2" + other + "3)", 4);
                lawFault("0|1" + one + "2" + other, 5);
                withLaw("1" + one + "2&2" + other + "3");
                withLaw("1" + one + "2|2" + other + "3");
                withLaw("1" + one + "2?2" + other + "3;1" + one + "2");
                withLaw("(1" + one + "2)" + other + "3");
                withLaw("1" + one + "(2" + other + "3)");
            }
            lawFault("1" + one, 2);
            lawFault("" + one + "1", 0);
            lawFault("1" + one + one + "1", 2);
        }
    }

    /** 6: "E = A { | A }. A = B { & B }", "S = P { + P, - P }. P = O { * O, / O, % O }": of none to as many as THE TAPE holds. */
    private static void chainsOfNoneOrMore() {
        for (char sign : "|&+-*/%".toCharArray()) {
            for (int n : new int[] {0, 1, 2, 3, 59}) {
                withLaw("1" + ("" + sign + "1").repeat(n));
            }
            lawFault("1" + sign, 2);
            lawFault("1" + ("" + sign + "1").repeat(58) + sign, 118);
            if (sign != '-') {
                lawFault("" + sign + "1", 0);
                lawFault("1" + sign + sign + "1", 2);
                lawFault("(" + sign + "1)", 1);
            }
        }
        rises("1--1", 2);
        rises("1---1", 0);
    }

    /** 6, 9: "E = A { | A }. A = B { & B }. B = S, or S < S ...": each sign joins what the signs named behind it made. */
    private static void whatIsJoinedFirst() {
        rises("1|1&0", 1);
        rises("0&1|1", 1);
        rises("0&0=0", 0);
        rises("0=0&0", 0);
        rises("5&5=5", 1);
        rises("2<1+2", 1);
        rises("2+1>2", 1);
        rises("2+3*4", 14);
        rises("3*4+2", 14);
        rises("9-4/2", 7);
        rises("9-4%3", 8);
        rises("-2*3", -6);
        rises("!2*3", 0);
        rises("!0+1", 2);
        rises("-1+2", 1);
        rises("9-4-3", 2);
        rises("36/6/3", 2);
        rises("36/6*3", 18);
        rises("35%8%2", 1);
        rises("2*7%5", 4);
        rises("9-(4-3)", 8);
        rises("(2+3)*4", 20);
        rises("(1|1)&0", 0);
        rises("0?1|1;7", 7);
        rises("0|1?7;8", 7);
    }

    /** 6: "At most 6 of ( ! - ahead of an O are open at once": each six of them are taken, and each seventh is not. */
    private static void sixOpenAtOnce() {
        for (int drawn = 0; drawn < 729; drawn++) {
            StringBuilder head = new StringBuilder();
            int brackets = 0;
            for (int n = 0, rest = drawn; n < 6; n++) {
                head.append("(!-".charAt(rest % 3));
                brackets += rest % 3 == 0 ? 1 : 0;
                rest /= 3;
            }
            Due.is("6: six: " + head, Due.law(new AcrossOnFoot(), head + "h" + ")".repeat(brackets)), 0);
            for (char seventh : "(!-".toCharArray()) {
                lawFault(head.toString() + seventh, 6);
                lawFault(head.toString() + seventh + "h" + ")".repeat(brackets + (seventh == '(' ? 1 : 0)), 6);
            }
            lawFault(head.toString(), 6);
        }
    }

    /** 6: "open at once": what has been closed counts no more, whatever stands ahead of it. */
    private static void openedAndClosedAgain() {
        String[] six = {"((((((1))))))", "!!!!!!1", "------1", "(!-(!-1))", "-----(1)"};
        for (String one : six) {
            for (String other : six) {
                for (String between : new String[] {"+", "-", "*", "&", "|", "<", "?", ";"}) {
                    withLaw(one + between + other);
                    lawFault(one + between + "!" + other, one.length() + 1 + 6);
                }
            }
        }
        withLaw("(1+(1+(1+(1+(1+(1))))))");
        lawFault("(1+(1+(1+(1+(1+(1+(1)))))))", 18);
        withLaw("(((((!1+!1)*-1)+!1)))");
        withLaw("(((((!1+-1+(1)+(1))))))");
        lawFault("((((((1)+!1)))))+!!!!!!!1", 17 + 6);
        lawFault("(((((!!1", 6);
    }

    /** 6: "No blanks." */
    private static void noBlanksInLaws() {
        String text = "h<10?-(r+1)*2;!i&12|c%3";
        for (int at = 0; at <= text.length(); at++) {
            lawFault(text.substring(0, at) + " " + text.substring(at), at);
            lawFault(text.substring(0, at) + "\t" + text.substring(at), at);
            lawFault(text.substring(0, at) + "\n" + text.substring(at), at);
            lawFault(text.substring(0, at) + "\0" + text.substring(at), at);
        }
    }

    /** 6: "FAULT likewise; the length, if it ends too early". */
    private static void lawsEndTooEarly() {
        String text = "h<10?-(r+1)*2;!i&(12|c%(3-!4))";
        int taken = 0;
        for (int length = 0; length <= text.length(); length++) {
            int answer = Due.law(new AcrossOnFoot(), text.substring(0, length));
            boolean ends = length > 0 && "hric0123456789)".indexOf(text.charAt(length - 1)) >= 0 && closed(text, length);
            Due.is("6: " + text.substring(0, length), answer, ends ? 0 : -100 - length);
            taken += ends ? 1 : 0;
        }
        Due.is("6: taken", taken, 7);
    }

    private static boolean closed(String text, int length) {
        int open = 0;
        for (int at = 0; at < length; at++) {
            open += text.charAt(at) == '(' ? 1 : text.charAt(at) == ')' ? -1 : 0;
        }
        return open == 0;
    }

    /** 6: "FAULT likewise": of all bytes at the begin, behind an O, and behind what ends a number. */
    private static void signsOfLaws() {
        for (char sign = 0; sign <= 255; sign++) {
            boolean digit = sign >= '0' && sign <= '9';
            boolean name = "hcri".indexOf(sign) >= 0;
            boolean opens = "(!-".indexOf(sign) >= 0;
            boolean joins = "|&<=>+-*/%?;".indexOf(sign) >= 0;
            for (String head : new String[] {"", "1+", "1*", "1<", "1&", "1|", "1?", "1;", "(", "!", "-"}) {
                String text = head + sign;
                boolean ends = (digit || name) && !head.equals("(");
                boolean goesOn = digit || name || opens;
                Due.is("6: " + head + " and " + (int) sign, Due.law(new AcrossOnFoot(), text),
                    ends ? 0 : -100 - text.length() + (goesOn ? 0 : 1));
            }
            for (String head : new String[] {"h", "9999", "(1)", "!c", "-r"}) {
                String text = head + sign;
                Due.is("6: " + head + " and " + (int) sign, Due.law(new AcrossOnFoot(), text),
                    -100 - text.length() + (joins ? 0 : 1));
            }
            Due.is("6: 1 and " + (int) sign, Due.law(new AcrossOnFoot(), "1" + sign), digit ? 0 : joins ? -102 : -101);
            Due.is("6: (1 and " + (int) sign, Due.law(new AcrossOnFoot(), "(1" + sign + ""),
                sign == ')' ? 0 : digit || joins && sign != '?' && sign != ';' ? -103 : -102);
        }
    }

    /** 6: "THE TAPE (at most 120 bytes)": a LAW of all of it, and FAULTS at its end. */
    private static void lawOf120Bytes() {
        AcrossOnFoot x = new AcrossOnFoot();
        Due.is("6: 120 bytes", Due.law(x, "-9" + "+0".repeat(58) + "+7"), 0);
        Due.is("9: the first and the last count", x.rise(0, 0), -2);
        Due.is("6: 120 bytes", Due.law(x, "0?1;".repeat(29) + "0?!5"), 1);
        Due.is("9: no LINE counts", x.rise(1, 0), 0);
        Due.is("6: 120 bytes", Due.law(x, "0?1;".repeat(29) + "1?-5"), 2);
        Due.is("9: the last LINE counts", x.rise(2, 0), -5);
        Due.is("6: 120 bytes", Due.law(x, "1+((((((" + "1*".repeat(52) + "11))))))"), 3);
        Due.is("9: 1 and 11", x.rise(3, 0), 12);
        lawFault("-9" + "+0".repeat(58) + "++", 119);
        lawFault("9" + "+0".repeat(59) + "+", 120);
        lawFault("9" + "+0".repeat(59) + "x", 119);
        lawFault("((((((" + "1*".repeat(54) + "1)))))", 120);
    }

    /** 6: "a FAULT empties THE TAPE", "THE TAPE is empty then", and no LAW came. */
    private static void lawFaultEmptiesTheTape() {
        AcrossOnFoot x = withLaw("h");
        Due.is("6: empty behind a law", x.law(), -100);
        for (String text : new String[] {"z", "1+", "((((((((", "12345", "1<2<3", "9;", "9?9?9"}) {
            Due.holds("6: " + text, Due.law(x, text) <= -100);
            Due.is("6: the tape is empty", x.count(4), 0);
            Due.is("6: no law came", x.count(1), 1);
            Due.is("9: the first law is as it was", x.rise(0, 33), 33);
        }
        Due.is("6: what comes next is read from its begin", Due.law(x, "c"), 1);
        Due.is("9: c", x.rise(1, 33), 9);
    }

    // ---- promises 7 and 8

    /** 7: "A LAW (-1: none) is IN FORCE: which was. BAD (-2 here)." */
    private static void forceNoneToLast() {
        AcrossOnFoot x = Due.at("9,0,0/0");
        Due.is("7: without LAWS", x.force(0), -2);
        int was = -1;
        for (int law = 0; law < 4; law++) {
            Due.law(x, "" + (law + 1));
            Due.is("7: the next is not there", x.force(law + 1), -2);
            Due.is("7: it is not IN FORCE yet", x.cell(0, 0, 3, 0), 9 + law);
            Due.is("7: the last", x.force(law), was);
            Due.is("7: it is IN FORCE", x.cell(0, 0, 3, 0), 10 + law);
            was = law;
        }
        for (int law : new int[] {4, -2, -3, LOWEST, HIGHEST}) {
            Due.is("7: force(" + law + ")", x.force(law), -2);
            Due.is("7: the last is IN FORCE still", x.cell(0, 0, 3, 0), 13);
        }
        Due.is("7: the same again", x.force(3), 3);
        Due.is("7: none", x.force(-1), 3);
        Due.is("7: RISE 0", x.cell(0, 0, 3, 0), 9);
        Due.is("7: none was", x.force(-1), -1);
        Due.is("7: none was", x.force(0), -1);
    }

    /** 8: "RAIN, ICE (0 .. 99 each; 0 at first)": "what it was". */
    private static void rainAndIce() {
        AcrossOnFoot x = withLaw("r-50");
        Due.law(x, "i-50");
        Due.is("9: no RAIN at first", x.rise(0, 0), -20);
        Due.is("9: no ICE at first", x.rise(1, 0), -20);
        for (int what = 0; what <= 1; what++) {
            int was = 0;
            for (int v : new int[] {99, 0, 1, 98, 99}) {
                Due.is("8: sky(" + what + ", " + v + ")", x.sky(what, v), was);
                was = v;
            }
            for (int v : new int[] {100, -1, LOWEST, HIGHEST}) {
                Due.is("8: sky(" + what + ", " + v + ")", x.sky(what, v), BAD);
            }
            Due.is("9: as it was", x.rise(what, 0), 49);
            Due.is("9: the other one", x.rise(1 - what, 0), what == 0 ? -20 : 49);
        }
        Due.is("8: sky(2, 0)", x.sky(2, 0), BAD);
        Due.is("8: sky(-1, 0)", x.sky(-1, 0), BAD);
        Due.is("8: RAIN is as it was", x.sky(0, 0), 99);
        Due.is("8: ICE is as it was", x.sky(1, 0), 99);
    }

    // ---- promise 9

    /** 9: "RISE (held within -20 .. 60)". */
    private static void riseIsHeld() {
        rises("-19", -19);
        rises("-20", -20);
        rises("-21", -20);
        rises("-9999", -20);
        rises("-9999*9999", -20);
        rises("59", 59);
        rises("60", 60);
        rises("61", 60);
        rises("9999", 60);
        rises("9999*9999", 60);
        rises("1?61", 60);
        rises("1?-21", -20);
        rises("(61)-(61)+5", 5);
        rises("0", 0);
        rises("61?-61", -20);
    }

    /** 9: "h the HOUR, c the HOUR by 24 (what is left)", "HOURS 0 .. 47". */
    private static void hoursOfTheDay() {
        AcrossOnFoot x = withLaw("h");
        Due.law(x, "c");
        for (int hour = 0; hour < 48; hour++) {
            Due.is("9: h at " + hour, x.rise(0, hour), hour);
            Due.is("9: c at " + hour, x.rise(1, hour), hour < 24 ? hour : hour - 24);
        }
        for (int hour : new int[] {-1, 48, 49, LOWEST, HIGHEST}) {
            Due.is("9: h at " + hour, x.rise(0, hour), VOID);
            Due.is("9: c at " + hour, x.rise(1, hour), VOID);
        }
        Due.is("9: no such law", x.rise(2, 0), VOID);
        Due.is("9: no such law", x.rise(-1, 0), VOID);
    }

    /** 9: "/ and % ..., by 0 they give 0". */
    private static void dividedBy0() {
        rises("5/0", 0);
        rises("5%0", 0);
        rises("0/0", 0);
        rises("0%0", 0);
        rises("-5/0", 0);
        rises("-5%0", 0);
        rises("7+5/0", 7);
        rises("7+5%(3-3)", 7);
        rises("5/0/3", 0);
        rises("9%h", 0);
        rises("5/1", 5);
        rises("5%1", 0);
        rises("5/-1", -5);
        rises("0/5", 0);
    }

    /** 9: "/ and % toward 0". */
    private static void towardZero() {
        rises("19/10", 1);
        rises("20/10", 2);
        rises("-19/10", -1);
        rises("-20/10", -2);
        rises("19/-10", -1);
        rises("-19/-10", 1);
        rises("-9/10", 0);
        rises("19%10", 9);
        rises("20%10", 0);
        rises("-19%10", -9);
        rises("-20%10", 0);
        rises("19%-10", 9);
        rises("-19%-10", -9);
    }

    /** 9: "Ints that wrap". */
    private static void intsWrap() {
        String most = "(2*1024*1024*1024-1)";
        String least = "(2*1024*1024*1024)";
        rises(most, 60);
        rises(most + "+1", -20);
        rises(least, -20);
        rises(least + "-1", 60);
        rises("-" + least, -20);
        rises(least + "/-1", -20);
        rises(least + "%-1", 0);
        rises(most + "*2+9", 7);
        rises(least + "*2+9", 9);
        rises(most + "+1<0", 1);
        rises(most + ">0", 1);
        rises(least + "<" + most, 1);
        rises("-" + most + "-1=" + least, 1);
        rises("!" + least, 0);
        rises(least + "&1", 1);
        rises(most + "-(" + most + "-7)", 7);
        rises("4096*1024*1024+3", 3);
    }

    /** 9: "| & < = > ! give 1, 0; all is worked out". */
    private static void signsGive1And0() {
        int[][] due = {{0, 0}, {0, 5}, {-5, 0}, {7, -9}};
        for (int[] d : due) {
            String a = d[0] < 0 ? "(" + d[0] + ")" : "" + d[0];
            String b = d[1] < 0 ? "(" + d[1] + ")" : "" + d[1];
            rises(a + "|" + b, d[0] != 0 || d[1] != 0 ? 1 : 0);
            rises(a + "&" + b, d[0] != 0 && d[1] != 0 ? 1 : 0);
            rises("!" + a, d[0] == 0 ? 1 : 0);
            rises("!!" + a, d[0] == 0 ? 0 : 1);
        }
        rises("(2|4)+(2&4)+(2<4)+(4=4)+(4>2)+!0", 6);
        rises("(0|0)+(2&0)+(4<4)+(4=2)+(2>2)+!9", 0);
        rises("1|5/0", 1);
        rises("0&5/0", 0);
    }

    /** 9: "S < S, S = S, S > S" at the bound and next to it. */
    private static void comparedAtTheBound() {
        for (int v = -1; v <= 1; v++) {
            rises(10 + v + "<10", v < 0 ? 1 : 0);
            rises(10 + v + "=10", v == 0 ? 1 : 0);
            rises(10 + v + ">10", v > 0 ? 1 : 0);
            rises(v + "<0", v < 0 ? 1 : 0);
            rises(v + "=0", v == 0 ? 1 : 0);
            rises(v + ">0", v > 0 ? 1 : 0);
        }
    }

    /** 9: "The first LINE without a first E, or whose first E is not 0, counts; none: 0". */
    private static void firstLineThatCounts() {
        rises("0?5", 0);
        rises("0?5;0?6;0?7", 0);
        rises("0?5;0?6;8?7", 7);
        rises("1?5;1?6", 5);
        rises("-1?5;6", 5);
        rises("0-0?5;6", 6);
        rises("5/0?5;6", 6);
        rises("0;6", 0);
        rises("1?0;6", 0);
        rises("0?5;0;6", 0);
        rises("0?5;6;7", 6);
        rises("!0?5;6", 5);
        rises("!5?5;6", 6);
        AcrossOnFoot x = withLaw("h<1?1;h<47?2;h>46?3");
        Due.is("9: HOUR 0", x.rise(0, 0), 1);
        Due.is("9: HOUR 1", x.rise(0, 1), 2);
        Due.is("9: HOUR 46", x.rise(0, 46), 2);
        Due.is("9: HOUR 47", x.rise(0, 47), 3);
    }
}
