/** Promises 24 to 30: each sentence that names a bound has a test of its own; its remark tells promise and sentence. */
public final class SignBoundTests {
    private static final int BAD = -1, FULL = -3, STATE = -5;
    private static final int LOWEST = Integer.MIN_VALUE, HIGHEST = Integer.MAX_VALUE;

    private SignBoundTests() {
    }

    public static void main(String[] args) {
        stickByTwoAtMost();
        stickIsCut();
        stickYardsAndBreaths();
        stickInAllCells();
        twentyNotches();
        hoursThatRise();
        risesOfNotches();
        notchesByTwos();
        oneToTwentyOfARow();
        rowIsMissing();
        rowEnds();
        notAsItMayBe();
        notchesAreFull();
        placeBelow0();
        noRowOfBytes();
        offIsTheSumOfSizes();
        offWithout();
        likeFits();
        fitWithout();
        nothingToUndo();
        eachKindOfChange();
        latestFirst();
        whatIsNoChange();
        noOtherCameBehind();
        refusedChangesComeNotBehind();
        fortyAreKept();
        fortyWithSomeUndone();
        Due.end();
    }

    private static void force(AcrossOnFoot x, String law) {
        Due.holds("6: " + law, x.force(Due.law(x, law)) >= -1);
    }

    // ---- promise 24

    /** 24: "whose PACE differs from 10 y / b (cut) by 2 at most": by 1 yard in 1 breath 8 to 12. */
    private static void stickByTwoAtMost() {
        for (int pace = 0; pace <= 30; pace++) {
            AcrossOnFoot x = Due.at("0," + pace + ",0/0");
            Due.is("24: 10, pace " + pace, x.stick(0, 11), pace >= 8 && pace <= 12 ? 1 : 0);
            Due.is("24: 20, pace " + pace, x.stick(0, 21), pace >= 18 && pace <= 22 ? 1 : 0);
            Due.is("24: 30, pace " + pace, x.stick(0, 31), pace >= 28 ? 1 : 0);
            Due.is("24: 40, pace " + pace, x.stick(0, 41), 0);
        }
    }

    /** 24: "10 y / b (cut)": 50 by 4 is 12, 20 by 3 is 6, 10 by 9 is 1. */
    private static void stickIsCut() {
        for (int pace = 0; pace <= 30; pace++) {
            AcrossOnFoot x = Due.at("0," + pace + ",0/0");
            Due.is("24: 12, pace " + pace, x.stick(0, 54), pace >= 10 && pace <= 14 ? 1 : 0);
            Due.is("24: 6, pace " + pace, x.stick(0, 23), pace >= 4 && pace <= 8 ? 1 : 0);
            Due.is("24: 1, pace " + pace, x.stick(0, 19), pace <= 3 ? 1 : 0);
            Due.is("24: 11, pace " + pace, x.stick(0, 109), pace >= 9 && pace <= 13 ? 1 : 0);
        }
    }

    /** 24: "y yards (1 .. 99) in b breaths (1 .. 9)". */
    private static void stickYardsAndBreaths() {
        for (int yb = -20; yb <= 1020; yb++) {
            AcrossOnFoot x = Due.at("0,30,0/0");
            boolean may = yb >= 11 && yb <= 999 && yb % 10 != 0;
            int near = may && Math.abs(30 - 10 * (yb / 10) / (yb % 10)) <= 2 ? 1 : 0;
            Due.is("24: yb " + yb, x.stick(0, yb), may ? near : BAD);
        }
        for (int yb : new int[] {LOWEST, LOWEST + 1, HIGHEST - 1, HIGHEST, -999, 10011}) {
            Due.is("24: yb " + yb, Due.at("0,30,0/0").stick(0, yb), BAD);
        }
        // 990 by 9: 110; a RISE of 53 makes 109 of 30, one of 54 111, one of 55 112, one of 56 114
        int[][] rises = {{51, 0}, {52, 1}, {53, 1}, {54, 1}, {55, 1}, {56, 0}};
        for (int[] row : rises) {
            AcrossOnFoot y = Due.at("0,30,0/0");
            force(y, "" + row[0]);
            Due.is("24: 99 yards in 9 breaths, RISE " + row[0], y.stick(0, 999), row[1]);
            Due.is("24: 99 yards in 1 breath, RISE " + row[0], y.stick(0, 991), 0);
        }
    }

    /** 24: "CELLS (bits) of a PLACE at an HOUR": each of twelve, all, and none. */
    private static void stickInAllCells() {
        for (int i = 0; i < 12; i++) {
            AcrossOnFoot x = Due.at("0,0,0;".repeat(i) + "0,10,0" + ";0,0,0".repeat(11 - i) + "/0");
            Due.is("24: CELL " + i, x.stick(0, 11), 1 << i);
            Due.is("24: all but CELL " + i, x.stick(0, 19), 4095 - (1 << i));
            Due.is("24: none", x.stick(0, 991), 0);
        }
        AcrossOnFoot x = Due.at("0,0,0/0", "0,9,0" + ";0,11,0".repeat(11) + "/0");
        Due.is("24: all", x.stick(100, 11), 4095);
        Due.is("24: the other PLACE", x.stick(0, 11), 0);
        force(x, "h=47?3;h=46?4;-20");
        Due.is("24: at 47 9 is 10, 11 is 12", x.stick(147, 11), 4095);
        Due.is("24: at 46 9 is 10, 11 is 13", x.stick(146, 11), 1);
        Due.is("24: at 0 they are 0", x.stick(100, 11), 0);
        Due.is("24: HOUR 48", x.stick(148, 11), BAD);
        Due.is("24: PLACE 2", x.stick(200, 11), BAD);
    }

    // ---- promises 25 and 26

    /** 25: "NOTCHES 0 .. 19, as they come", "BAD, FULL". */
    private static void twentyNotches() {
        AcrossOnFoot x = new AcrossOnFoot();
        for (int n = 0; n < 20; n++) {
            Due.is("25: notch " + n, x.notch(2 * n, n), n);
            Due.is("25: so many", x.count(3), n + 1);
        }
        Due.is("25: the twenty-first", x.notch(39, 0), FULL);
        Due.is("25: the twenty-first", x.notch(47, -20), FULL);
        Due.is("25: BAD goes ahead of FULL: no HOUR", x.notch(48, 0), BAD);
        Due.is("25: BAD goes ahead of FULL: it does not rise", x.notch(38, 0), BAD);
        Due.is("25: BAD goes ahead of FULL: no RISE", x.notch(47, 61), BAD);
        Due.is("25: BAD goes ahead of FULL: no RISE", x.notch(47, -21), BAD);
        Due.is("25: twenty", x.count(3), 20);
    }

    /** 25: "an HOUR (they rise)", "HOURS 0 .. 47". */
    private static void hoursThatRise() {
        for (int hour = -2; hour <= 50; hour++) {
            boolean is = hour >= 0 && hour <= 47;
            Due.is("25: the first at " + hour, new AcrossOnFoot().notch(hour, 0), is ? 0 : BAD);
            AcrossOnFoot x = new AcrossOnFoot();
            x.notch(20, 0);
            Due.is("25: behind 20 at " + hour, x.notch(hour, 0), hour > 20 && is ? 1 : BAD);
            Due.is("25: so many", x.count(3), hour > 20 && is ? 2 : 1);
        }
        AcrossOnFoot x = new AcrossOnFoot();
        Due.is("25: 47", x.notch(47, 0), 0);
        Due.is("25: no HOUR is behind 47", x.notch(47, 0), BAD);
        Due.is("25: no HOUR is behind 47", x.notch(48, 0), BAD);
        for (int hour : new int[] {LOWEST, HIGHEST}) {
            Due.is("25: notch(" + hour + ", 0)", new AcrossOnFoot().notch(hour, 0), BAD);
        }
    }

    /** 25: "a RISE (-20 .. 60)". */
    private static void risesOfNotches() {
        for (int rise = -30; rise <= 70; rise++) {
            AcrossOnFoot x = new AcrossOnFoot();
            boolean may = rise >= -20 && rise <= 60;
            Due.is("25: RISE " + rise, x.notch(0, rise), may ? 0 : BAD);
            Due.law(x, "0");
            Due.is("27: it is kept", x.off(0), may ? Math.abs(rise) : STATE);
        }
        for (int rise : new int[] {LOWEST, HIGHEST}) {
            Due.is("25: notch(0, " + rise + ")", new AcrossOnFoot().notch(0, rise), BAD);
        }
    }

    /** A ROW of bytes on SHELF 0 with these elements. */
    private static AcrossOnFoot withBytes(int... bytes) {
        AcrossOnFoot x = new AcrossOnFoot();
        x.row(0, 0, bytes.length);
        for (int i = 0; i < bytes.length; i++) {
            x.put(0, i, bytes[i]);
        }
        return x;
    }

    /** So many came, and they are those: each notch (HOUR, RISE) is looked up by a law that is the RISE at that HOUR. */
    private static void came(String call, AcrossOnFoot x, int answer, int... told) {
        Due.is("26: " + call, answer, told.length / 2);
        Due.is("26: so many, " + call, x.count(3), told.length / 2);
        StringBuilder law = new StringBuilder("0");
        for (int k = 0; k < told.length; k += 2) {
            law.insert(0, "h=" + told[k] + "?" + told[k + 1] + ";");
        }
        if (told.length > 0) {
            Due.is("27: those came, " + call, x.off(Due.law(x, law.toString())), 0);
        }
    }

    /** 26: "from place i on: by twos HOUR, RISE". */
    private static void notchesByTwos() {
        AcrossOnFoot x = withBytes(1, 2, 3, 4, 5, 6, 7);
        came("from 0 on", x, x.notches(0, 0, 3), 1, 2, 3, 4, 5, 6);
        AcrossOnFoot y = withBytes(1, 2, 3, 4, 5, 6, 7);
        came("from 1 on", y, y.notches(0, 1, 3), 2, 3, 4, 5, 6, 7);
        AcrossOnFoot z = withBytes(1, 2, 3, 4, 5, 6, 7);
        came("from 5 on", z, z.notches(0, 5, 1), 6, 7);
        AcrossOnFoot w = withBytes(0, -20, 1, 60, 46, 0, 47, 7);
        came("the least and the greatest", w, w.notches(0, 0, 4), 0, -20, 1, 60, 46, 0, 47, 7);
    }

    /** 26: "n (1 .. 20) of them: how many came". */
    private static void oneToTwentyOfARow() {
        int[] bytes = new int[60];
        for (int k = 0; k < 30; k++) {
            bytes[2 * k] = k;
            bytes[2 * k + 1] = 30 - k;
        }
        for (int n = 1; n <= 20; n++) {
            AcrossOnFoot x = withBytes(bytes);
            Due.is("26: " + n + " of 30", x.notches(0, 0, n), n);
            Due.is("26: so many", x.count(3), n);
            Due.is("26: the next one", x.notch(n - 1, 0), BAD);
            Due.is("26: the next one", x.notch(n, 0), n < 20 ? n : FULL);
        }
        AcrossOnFoot x = withBytes(bytes);
        for (int n : new int[] {0, 21, -1, 22, LOWEST, HIGHEST}) {
            Due.is("26: " + n + " of 30", x.notches(0, 0, n), BAD);
            Due.is("26: none came", x.count(3), 0);
        }
        Due.is("26: SHELF 6", x.notches(6, 0, 1), BAD);
        Due.is("26: SHELF -1", x.notches(-1, 0, 1), BAD);
    }

    /** 26: "it ends where the row is missing", "a SHELF that holds nothing is missing". */
    private static void rowIsMissing() {
        AcrossOnFoot x = new AcrossOnFoot();
        for (int shelf = 0; shelf <= 5; shelf++) {
            for (int i : new int[] {0, 1, -1, LOWEST, HIGHEST}) {
                Due.is("26: SHELF " + shelf + " from " + i, x.notches(shelf, i, 20), 0);
            }
        }
        x.row(3, 0, 4);
        x.keep(3, -1);
        Due.is("26: it held one", x.notches(3, 0, 1), 0);
        Due.is("26: none came", x.count(3), 0);
    }

    /** 26: "ends (within a two, too)". */
    private static void rowEnds() {
        for (int length = 0; length <= 5; length++) {
            for (int i = 0; i <= 7; i++) {
                AcrossOnFoot x = withBytes(java.util.Arrays.copyOf(new int[] {11, 12, 13, 14, 15}, length));
                Due.is("26: of " + length + " from " + i, x.notches(0, i, 20), Math.max(0, (length - i) / 2));
                Due.is("26: so many", x.count(3), Math.max(0, (length - i) / 2));
            }
        }
        AcrossOnFoot x = withBytes(new int[60]);
        x.put(0, 58, 47);
        for (int i : new int[] {59, 60, 61, HIGHEST, HIGHEST - 1}) {
            Due.is("26: of 60 from " + i, x.notches(0, i, 1), 0);
        }
        came("of 60 from 58", x, x.notches(0, 58, 20), 47, 0);
    }

    /** 26: "one is not as it may be ...: those ahead came". */
    private static void notAsItMayBe() {
        int[][] bad = {{48, 0}, {-1, 0}, {127, 0}, {-128, 0}, {9, 0}, {8, 0}, {12, 61}, {12, -21}, {12, 127}, {12, -128}};
        for (int[] b : bad) {
            AcrossOnFoot x = withBytes(5, -20, 9, 60, b[0], b[1], 30, 0);
            came("up to " + b[0] + ", " + b[1], x, x.notches(0, 0, 4), 5, -20, 9, 60);
        }
        int[][] first = {{48, 0}, {-1, 0}, {12, 61}, {12, -21}};
        for (int[] b : first) {
            AcrossOnFoot x = withBytes(b[0], b[1], 30, 0);
            came("not one: " + b[0] + ", " + b[1], x, x.notches(0, 0, 2));
        }
        AcrossOnFoot x = withBytes(20, 1, 21, 2);
        x.notch(20, 7);
        Due.is("26: not behind the one that is there", x.notches(0, 0, 2), 0);
        Due.is("26: behind it", x.notches(0, 2, 2), 1);
        Due.is("26: two", x.count(3), 2);
    }

    /** 26: "or NOTCHES are FULL: those ahead came". */
    private static void notchesAreFull() {
        for (int there = 16; there <= 20; there++) {
            AcrossOnFoot x = withBytes(30, 0, 31, 1, 32, 2);
            for (int n = 0; n < there; n++) {
                x.notch(n, n);
            }
            Due.is("26: three to " + there, x.notches(0, 0, 3), Math.min(3, 20 - there));
            Due.is("26: so many", x.count(3), Math.min(20, there + 3));
            Due.is("26: no more of them", x.notches(0, 0, 3), 0);
        }
    }

    /** 26: "(0 with i below 0)". */
    private static void placeBelow0() {
        AcrossOnFoot x = withBytes(1, 2, 3, 4);
        for (int i : new int[] {-1, -2, -60, LOWEST, LOWEST + 1}) {
            Due.is("26: from " + i, x.notches(0, i, 2), 0);
            Due.is("26: none came", x.count(3), 0);
        }
    }

    /** 26: "-12 (no ROW of bytes ...)". */
    private static void noRowOfBytes() {
        AcrossOnFoot x = new AcrossOnFoot();
        for (int sort = 1; sort <= 4; sort++) {
            for (int length : new int[] {0, 4}) {
                x.row(0, sort, length);
                Due.is("26: a ROW of sort " + sort, x.notches(0, 0, 1), -12);
                Due.is("26: BAD goes ahead of -12", x.notches(0, 0, 21), BAD);
            }
        }
        x.body(0);
        x.keep(0, 0);
        Due.is("26: a BODY", x.notches(0, 0, 1), -12);
        x.row(0, 0, 0);
        Due.is("26: a ROW of no bytes", x.notches(0, 0, 1), 0);
        Due.is("26: none came", x.count(3), 0);
    }

    // ---- promises 27 and 28

    /** 27: "the sum of sizes of differences between its RISE at their HOURS and told ones": of one to twenty. */
    private static void offIsTheSumOfSizes() {
        AcrossOnFoot x = new AcrossOnFoot();
        Due.law(x, "-99");
        Due.law(x, "99");
        Due.law(x, "h");
        for (int n = 0; n < 20; n++) {
            x.notch(n, n % 2 == 0 ? 60 : -20);
            Due.is("27: from -20", x.off(0), 80 * (n / 2 + 1));
            Due.is("27: from 60", x.off(1), 80 * ((n + 1) / 2));
        }
        // 60 less h at the even ones, 20 and h at the odd ones
        Due.is("27: from h", x.off(2), 600 - 90 + 200 + 100);
    }

    /** 27: "BAD; STATE": "STATE: no NOTCHES, or no LAWS". */
    private static void offWithout() {
        AcrossOnFoot x = new AcrossOnFoot();
        Due.is("27: no LAW, no NOTCH", x.off(0), BAD);
        Due.law(x, "h");
        Due.is("27: no NOTCH", x.off(0), STATE);
        Due.is("27: BAD goes ahead of STATE", x.off(1), BAD);
        Due.is("27: BAD goes ahead of STATE", x.off(-1), BAD);
        x.notch(9, 9);
        Due.is("27: one NOTCH", x.off(0), 0);
        for (int law : new int[] {-1, 1, 4, LOWEST, HIGHEST}) {
            Due.is("27: LAW " + law, x.off(law), BAD);
        }
        AcrossOnFoot y = new AcrossOnFoot();
        y.notch(9, 9);
        Due.is("27: no LAW", y.off(0), BAD);
    }

    /** 28: "the LAW with the least OFF (of like ones the first)". */
    private static void likeFits() {
        String[][] laws = {
            {"5", "5", "5", "5"}, {"7", "5", "5", "5"}, {"7", "3", "5", "5"}, {"7", "3", "9", "5"}, {"4", "6", "6", "4"},
            {"9", "6", "4", "6"}, {"5", "4", "6", "5"}, {"9"}, {"9", "5"}, {"9", "8", "7"}, {"4", "6", "5"},
        };
        int[] due = {0, 1, 2, 3, 0, 1, 0, 0, 1, 2, 2};
        for (int k = 0; k < laws.length; k++) {
            AcrossOnFoot x = new AcrossOnFoot();
            x.notch(0, 5);
            for (String law : laws[k]) {
                Due.law(x, law);
            }
            Due.is("28: " + String.join(" ", laws[k]), x.fit(), due[k]);
        }
        AcrossOnFoot x = new AcrossOnFoot();
        Due.law(x, "60");
        Due.law(x, "-20");
        for (int n = 0; n < 20; n++) {
            x.notch(n, 20);
        }
        Due.is("28: 800 and 800", x.fit(), 0);
    }

    /** 28: "STATE: no NOTCHES, or no LAWS". */
    private static void fitWithout() {
        AcrossOnFoot x = new AcrossOnFoot();
        Due.is("28: neither", x.fit(), STATE);
        x.notch(0, 0);
        Due.is("28: no LAWS", x.fit(), STATE);
        Due.law(x, "60");
        Due.is("28: one of each", x.fit(), 0);
        AcrossOnFoot y = new AcrossOnFoot();
        Due.law(y, "60");
        Due.is("28: no NOTCHES", y.fit(), STATE);
        y.notch(0, 0);
        Due.is("28: one of each", y.fit(), 0);
    }

    // ---- promises 29 and 30

    /** 29, 30: "STATE: none". */
    private static void nothingToUndo() {
        AcrossOnFoot x = Due.at("1,2,3/4");
        Due.is("29: none", x.undo(), STATE);
        Due.is("30: none", x.redo(), STATE);
        x.mend(0, 0, 0, 9);
        Due.is("30: none undone", x.redo(), STATE);
        Due.is("29: the only one", x.undo(), 0);
        Due.is("29: none any more", x.undo(), STATE);
        Due.is("40: none", x.count(5), 0);
        Due.is("30: the only one", x.redo(), 0);
        Due.is("30: none any more", x.redo(), STATE);
        Due.is("40: one", x.count(5), 1);
        Due.is("4: it is done again", x.cell(0, 0, 0, 0), 9);
    }

    /** 29, 30: "CHANGES (LEGS, PACK of PEOPLE; DEPTH, PACE, BED of CELLS)": of the first and the last of them. */
    private static void eachKindOfChange() {
        String twelve = "1,2,3" + ";1,2,3".repeat(11) + "/4";
        for (int kind = 0; kind < 10; kind++) {
            AcrossOnFoot x = Due.at(twelve, twelve, twelve, twelve, twelve, twelve);
            for (int n = 0; n < 8; n++) {
                x.person(7018, 420);
            }
            int last = kind % 2;
            int was = change(x, kind / 2, last, 7);
            Due.is("29: kind " + kind + ", one", x.count(5), 1);
            Due.is("29: what it is", told(x, kind / 2, last), 7);
            Due.is("29: undone", x.undo(), 0);
            Due.is("29: what it was", told(x, kind / 2, last), was);
            Due.is("30: done again", x.redo(), 0);
            Due.is("30: what it is", told(x, kind / 2, last), 7);
            for (int other = 0; other < 10; other++) {
                Due.is("30: no other one, " + other, told(x, other / 2, other % 2),
                    other == kind ? 7 : new int[] {1, 2, 3, 4, 20}[other / 2]);
            }
        }
    }

    /** DEPTH, PACE, BED of the first CELL or of the last of all; LEGS, PACK of the first PERSON or of the last. */
    private static int change(AcrossOnFoot x, int kind, int last, int v) {
        return kind < 3 ? x.mend(5 * last, 11 * last, kind, v) : x.set(7 * last, kind - 3, v);
    }

    private static int told(AcrossOnFoot x, int kind, int last) {
        return kind < 3 ? x.cell(5 * last, 11 * last, kind, 0) : x.of(7 * last, kind - 1);
    }

    /** 29, 30: "the latest first", "how many may still be". */
    private static void latestFirst() {
        AcrossOnFoot x = Due.at("1,2,3/4");
        x.person(7018, 420);
        x.mend(0, 0, 0, 11);
        x.set(0, 1, 11);
        x.mend(0, 0, 0, 12);
        x.set(0, 1, 12);
        int[][] due = {{3, 12, 11}, {2, 11, 11}, {1, 11, 20}, {0, 1, 20}};
        for (int[] d : due) {
            Due.is("29: left", x.undo(), d[0]);
            Due.is("29: DEPTH", x.cell(0, 0, 0, 0), d[1]);
            Due.is("29: PACK", x.of(0, 3), d[2]);
        }
        int[][] again = {{3, 11, 20}, {2, 11, 11}, {1, 12, 11}, {0, 12, 12}};
        for (int[] d : again) {
            Due.is("30: left", x.redo(), d[0]);
            Due.is("30: DEPTH", x.cell(0, 0, 0, 0), d[1]);
            Due.is("30: PACK", x.of(0, 3), d[2]);
        }
    }

    /** 29: what is not LEGS, PACK, DEPTH, PACE, BED is no CHANGE, nor is what stays as it was. */
    private static void whatIsNoChange() {
        AcrossOnFoot x = Samples.some();
        x.sky(0, 5);
        x.force(1);
        x.person(7018, 420);
        x.notch(47, 0);
        x.body(0);
        x.keep(0, 0);
        x.row(1, 0, 3);
        x.put(1, 0, 9);
        x.shift(1, 0, 1, 1, 2);
        x.act(0, 0, 0);
        x.law();
        Due.place(x, "5,5,5/5");
        x.mend(0, 1, 0, 8);
        x.mend(0, 0, 1, 4);
        x.mend(0, 0, 2, 5);
        x.set(2, 1, 6);
        x.set(0, 0, 4);
        Due.is("40: two CHANGES as ahead", x.count(5), 2);
        Due.is("30: two may be DONE AGAIN", x.redo(), 1);
        Due.is("30: two may be DONE AGAIN", x.redo(), 0);
        Due.is("29: all four", x.undo(), 3);
    }

    /** 30: "DONE AGAIN (as long as no other came behind)". */
    private static void noOtherCameBehind() {
        for (int undone = 0; undone <= 3; undone++) {
            AcrossOnFoot x = Due.at("0,0,0/0");
            for (int depth = 1; depth <= 3; depth++) {
                x.mend(0, 0, 0, depth);
            }
            for (int n = 0; n < undone; n++) {
                x.undo();
            }
            x.mend(0, 0, 1, 9);
            Due.is("30: another came behind", x.redo(), STATE);
            Due.is("40: so many", x.count(5), 4 - undone);
            Due.is("4: DEPTH", x.cell(0, 0, 0, 0), 3 - undone);
            Due.is("29: the other one first", x.undo(), 3 - undone);
            Due.is("4: PACE", x.cell(0, 0, 1, 0), 0);
            Due.is("30: it may be done again", x.redo(), 0);
            Due.is("30: and no more", x.redo(), STATE);
        }
    }

    /** 30: a CHANGE that is refused did not come behind. */
    private static void refusedChangesComeNotBehind() {
        AcrossOnFoot x = Due.at("0,0,0/0");
        x.person(7018, 420);
        x.mend(0, 0, 0, 5);
        x.set(0, 0, 5);
        x.undo();
        x.undo();
        Due.is("5: refused", x.mend(0, 0, 0, 31), BAD);
        Due.is("5: refused", x.mend(0, 1, 0, 3), BAD);
        Due.is("5: refused", x.mend(1, 0, 0, 3), BAD);
        Due.is("11: refused", x.set(0, 0, 10), BAD);
        Due.is("11: refused", x.set(0, 1, -1), BAD);
        Due.is("29: refused", x.undo(), STATE);
        Due.is("30: both", x.redo(), 1);
        Due.is("30: both", x.redo(), 0);
        Due.is("4: DEPTH", x.cell(0, 0, 0, 0), 5);
        Due.is("12: LEGS", x.of(0, 2), 5);
    }

    /** 29: "40 at most are kept": of 39 to 43 the last ones. */
    private static void fortyAreKept() {
        for (int made = 39; made <= 43; made++) {
            AcrossOnFoot x = Due.at("0,0,0/0");
            for (int n = 1; n <= made; n++) {
                x.mend(0, 0, 0, n % 31);
                Due.is("40: after " + n, x.count(5), Math.min(40, n));
            }
            int kept = Math.min(40, made);
            for (int n = 1; n <= kept; n++) {
                Due.is("29: undone", x.undo(), kept - n);
                Due.is("29: it was", x.cell(0, 0, 0, 0), (made - n) % 31);
            }
            Due.is("29: none any more", x.undo(), STATE);
            Due.is("29: it stays", x.cell(0, 0, 0, 0), (made - kept) % 31);
            for (int n = 1; n <= kept; n++) {
                Due.is("30: done again", x.redo(), kept - n);
                Due.is("30: it is", x.cell(0, 0, 0, 0), (made - kept + n) % 31);
            }
            Due.is("30: none any more", x.redo(), STATE);
            Due.is("40: so many", x.count(5), kept);
        }
    }

    /** 29, 30: "40 at most are kept", some of them UNDONE: what comes behind takes their places. */
    private static void fortyWithSomeUndone() {
        for (int undone = 1; undone <= 40; undone += 13) {
            AcrossOnFoot x = Due.at("0,0,0/0");
            for (int n = 1; n <= 40; n++) {
                x.mend(0, 0, 0, n % 31);
            }
            for (int n = 1; n <= undone; n++) {
                x.undo();
            }
            x.mend(0, 0, 1, 30);
            Due.is("40: so many", x.count(5), 41 - undone);
            Due.is("30: none", x.redo(), STATE);
            for (int n = 1; n <= undone; n++) {
                x.mend(0, 0, 1, n % 30);
                Due.is("40: forty at most", x.count(5), Math.min(40, 41 - undone + n));
            }
            // the first of all is not kept any more
            for (int n = 0; n < 40; n++) {
                x.undo();
            }
            Due.is("29: none any more", x.undo(), STATE);
            Due.is("4: DEPTH", x.cell(0, 0, 0, 0), undone == 40 ? 0 : 1);
            Due.is("4: PACE", x.cell(0, 0, 1, 0), undone == 40 ? 30 : 0);
        }
    }
}
