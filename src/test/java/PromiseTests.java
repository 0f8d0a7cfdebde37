/** For each promise of the document its ordinary inputs, its edges and wrong inputs, worked out by hand. */
public final class PromiseTests {
    private static final int BAD = -1, NOT = -2, FULL = -3, STATE = -5, VOID = -2000000000;
    private static final long NONE = Long.MIN_VALUE;

    private PromiseTests() {
    }

    public static void main(String[] args) {
        newObject();
        feed();
        place();
        placeFaults();
        cell();
        mend();
        law();
        lawFaults();
        force();
        sky();
        rise();
        person();
        set();
        of();
        margin();
        marginBad();
        lees();
        placesAndHours();
        placesForHours();
        over();
        atTheEdge();
        order();
        orderOfStrength();
        best();
        gusts();
        await();
        mustNot();
        midst();
        line();
        wall();
        roped();
        stick();
        notch();
        notches();
        offAndFit();
        undoAndRedo();
        fortyChanges();
        body();
        act();
        trace();
        keep();
        row();
        putAndElement();
        shift();
        taken();
        count();
        Due.end();
    }

    /** Three people: 70 heavy, 18 high, legs 4, pack 20; 50, 10, 9, 5; 120, 22, 0, 0. */
    private static void addThree(AcrossOnFoot x) {
        x.person(7018, 420);
        x.person(5010, 905);
        x.person(12022, 0);
    }

    private static void force(AcrossOnFoot x, String text) {
        x.force(Due.law(x, text));
    }

    private static void newObject() {
        AcrossOnFoot x = new AcrossOnFoot();
        for (int what = 0; what <= 7; what++) {
            Due.is("1: count(" + what + ")", x.count(what), 0);
        }
        Due.is("1: sky(0, 0)", x.sky(0, 0), 0);
        Due.is("1: sky(1, 0)", x.sky(1, 0), 0);
        Due.is("1: force(-1)", x.force(-1), -1);
        for (int shelf = 0; shelf <= 5; shelf++) {
            Due.is("1: taken(" + shelf + ", 0)", x.taken(shelf, 0), -11);
        }
        x.person(7018, 420);
        Due.is("1: another object's people", new AcrossOnFoot().count(2), 0);
        Due.is("1: BAD", AcrossOnFoot.BAD, -1);
        Due.is("1: NOT", AcrossOnFoot.NOT, -2);
        Due.is("1: FULL", AcrossOnFoot.FULL, -3);
        Due.is("1: STATE", AcrossOnFoot.STATE, -5);
        Due.is("1: VOID", AcrossOnFoot.VOID, -2000000000);
    }

    private static void feed() {
        AcrossOnFoot x = new AcrossOnFoot();
        Due.is("2: feed(0, 1)", x.feed(0, 1), BAD);
        Due.is("2: feed(5, 1)", x.feed(5, 1), BAD);
        Due.is("2: feed(-1, 1)", x.feed(-1, 1), BAD);
        Due.is("2: nothing came", x.count(4), 0);
        Due.is("2: 0,0,", x.feed(4, '0' | ',' << 8 | '0' << 16 | ',' << 24), 4);
        Due.is("2: the higher bytes do not matter", x.feed(1, '4' | '9' << 8), 5);
        Due.is("2: /7", x.feed(2, '/' | '7' << 8 | 'x' << 16), 7);
        Due.is("2: the text is 0,0,4/7", x.place(), 0);
        Due.is("2: its bed", x.cell(0, 0, 2, 0), 4);
        Due.is("2: its below", x.cell(0, -1, 1, 0), 7);
        Due.is("2: three bytes", x.feed(3, -1), 3);
        Due.is("2: a byte of 255 is no text", x.place(), -100);
        for (int n = 1; n <= 29; n++) {
            Due.is("2: feed " + n, x.feed(4, 0), 4 * n);
        }
        Due.is("2: 119", x.feed(3, 0), 119);
        Due.is("2: two more are too many", x.feed(2, 0), FULL);
        Due.is("2: bad goes ahead of full", x.feed(9, 0), BAD);
        Due.is("2: still 119", x.count(4), 119);
        Due.is("2: 120", x.feed(1, 0), 120);
        Due.is("2: one more", x.feed(1, 0), FULL);
    }

    private static void place() {
        AcrossOnFoot x = new AcrossOnFoot();
        Due.is("3: the least", Due.place(x, "0,0,0/0"), 0);
        Due.is("3: the tape is empty then", x.count(4), 0);
        Due.is("3: the greatest measures", Due.place(x, "30,30,9/9"), 1);
        Due.is("3: a 0 ahead", Due.place(x, "05,07,3/1"), 2);
        Due.is("3: its depth", x.cell(2, 0, 0, 0), 5);
        Due.is("3: its pace", x.cell(2, 0, 1, 0), 7);
        Due.is("3: twelve cells", Due.place(x, "1,2,3" + ";1,2,3".repeat(11) + "/4"), 3);
        Due.is("3: how many", x.cell(3, -1, 0, 0), 12);
        Due.is("3: a fault", Due.place(x, "1,2,3;"), -106);
        Due.is("3: a fault empties the tape", x.count(4), 0);
        Due.is("3: no place came", x.count(0), 4);
        Due.is("3: the fifth", Due.place(x, "1,1,1;2,2,2/1"), 4);
        Due.is("3: the sixth", Due.place(x, "1,1,1/1"), 5);
        Due.is("3: the seventh", Due.place(x, "1,1,1/1"), FULL);
        Due.is("3: the tape stays", x.count(4), 7);
        Due.feed(x, "x");
        Due.is("3: full goes ahead of a fault", x.place(), FULL);
        Due.is("3: the tape stays", x.count(4), 8);
    }

    private static void placeFaults() {
        placeFault("", 0);
        placeFault("a", 0);
        placeFault(",", 0);
        placeFault("1", 1);
        placeFault("1a", 1);
        placeFault("12", 2);
        placeFault("123", 2);
        placeFault("31", 0);
        placeFault("31,1,1/1", 0);
        placeFault("312", 0);
        placeFault("99,1,1/1", 0);
        placeFault("1,", 2);
        placeFault("1,30", 4);
        placeFault("1,31,1/1", 2);
        placeFault("1,301", 4);
        placeFault("1,,", 2);
        placeFault("1,2;", 3);
        placeFault("1,2,", 4);
        placeFault("1,2,/", 4);
        placeFault("1,2,3", 5);
        placeFault("1,2,34", 5);
        placeFault("1,2,3,", 5);
        placeFault("1,2,3/", 6);
        placeFault("1,2,3/x", 6);
        placeFault("1,2,3/;", 6);
        placeFault("1,2,3/45", 7);
        placeFault("1,2,3/4;", 7);
        placeFault("1,2,3/4 ", 7);
        placeFault(" 1,2,3/4", 0);
        placeFault("1,2,3;/4", 6);
        placeFault("1,2,3;4,40,5/4", 8);
        placeFault("1,2,3" + ";1,2,3".repeat(11) + ";1,2,3/4", 71);
        placeFault("1,2,3" + ";1,2,3".repeat(11), 71);
    }

    private static void placeFault(String text, int fault) {
        AcrossOnFoot x = new AcrossOnFoot();
        Due.is("3: " + text, Due.place(x, text), -100 - fault);
        Due.is("3: places after " + text, x.count(0), 0);
        Due.is("3: the tape after " + text, x.count(4), 0);
    }

    private static void cell() {
        AcrossOnFoot x = Due.at("3,4,5;9,11,2;0,30,1/7", "1,2,3/0");
        Due.is("4: cells", x.cell(0, -1, 0, -9), 3);
        Due.is("4: below", x.cell(0, -1, 1, 99), 7);
        Due.is("4: depth as told", x.cell(0, 1, 0, -1), 9);
        Due.is("4: pace as told", x.cell(0, 1, 1, 48), 11);
        Due.is("4: bed as told", x.cell(0, 0, 2, 0), 5);
        Due.is("4: the other place's depth", x.cell(1, 0, 0, 0), 1);
        Due.is("4: depth without a law", x.cell(0, 1, 3, 0), 9);
        Due.is("4: pace without a law", x.cell(0, 1, 4, 47), 11);
        force(x, "h-10");
        Due.is("4: depth by 5", x.cell(0, 1, 3, 15), 14);
        Due.is("4: pace by 5: 11 * 25 / 20", x.cell(0, 1, 4, 15), 13);
        Due.is("4: depth by -10", x.cell(0, 1, 3, 0), 0);
        Due.is("4: depth by -9", x.cell(0, 1, 3, 1), 0);
        Due.is("4: depth by -8", x.cell(0, 1, 3, 2), 1);
        Due.is("4: pace by -9: 11 * 11 / 20", x.cell(0, 1, 4, 1), 6);
        force(x, "-20");
        Due.is("4: pace by -20", x.cell(0, 2, 4, 1), 0);
        force(x, "60");
        Due.is("4: pace by 60", x.cell(0, 2, 4, 1), 120);
        Due.is("4: as told all the same", x.cell(0, 2, 1, 1), 30);
        int[][] bad = {
            {2, 0, 0, 0}, {-1, 0, 0, 0}, {0, 3, 0, 0}, {0, -2, 0, 0}, {1, 1, 0, 0}, {0, 0, 5, 0}, {0, 0, -1, 0},
            {0, -1, 2, 0}, {0, -1, -1, 0}, {0, -1, 3, 0}, {0, 0, 3, 48}, {0, 0, 4, -1}, {2, -1, 0, 0},
        };
        for (int[] b : bad) {
            Due.is("4: " + java.util.Arrays.toString(b), x.cell(b[0], b[1], b[2], b[3]), BAD);
        }
    }

    private static void mend() {
        AcrossOnFoot x = Due.at("3,4,5;9,11,2/7", "1,2,3/0");
        Due.is("5: depth", x.mend(0, 1, 0, 30), 9);
        Due.is("5: pace", x.mend(0, 1, 1, 0), 11);
        Due.is("5: bed", x.mend(0, 1, 2, 9), 2);
        Due.is("5: depth then", x.cell(0, 1, 0, 0), 30);
        Due.is("5: pace then", x.cell(0, 1, 1, 0), 0);
        Due.is("5: bed then", x.cell(0, 1, 2, 0), 9);
        Due.is("5: the other cell", x.cell(0, 0, 0, 0), 3);
        Due.is("5: again", x.mend(0, 1, 0, 0), 30);
        int[][] bad = {
            {2, 0, 0, 0}, {-1, 0, 0, 0}, {0, 2, 0, 0}, {0, -1, 0, 0}, {1, 1, 0, 0}, {0, 0, 3, 0}, {0, 0, -1, 0},
            {0, 0, 0, 31}, {0, 0, 1, 31}, {0, 0, 2, 10}, {0, 0, 0, -1}, {0, 0, 1, -1}, {0, 0, 2, -1},
        };
        for (int[] b : bad) {
            Due.is("5: " + java.util.Arrays.toString(b), x.mend(b[0], b[1], b[2], b[3]), BAD);
        }
        Due.is("5: nothing changed", x.cell(0, 0, 0, 0) + x.cell(0, 0, 1, 0) + x.cell(0, 0, 2, 0), 12);
        Due.is("5: changes", x.count(5), 4);
    }

    private static void law() {
        AcrossOnFoot x = new AcrossOnFoot();
        Due.is("6: h", Due.law(x, "h"), 0);
        Due.is("6: the tape is empty then", x.count(4), 0);
        Due.is("6: 120 bytes", Due.law(x, "1" + "+1".repeat(59) + "0"), 1);
        Due.is("6: its rise", x.rise(1, 0), 60);
        Due.is("6: 120 bytes, each of which counts", Due.law(x, "-1" + "+1".repeat(59)), 2);
        Due.is("6: its rise", x.rise(2, 0), 58);
        Due.is("6: a fault", Due.law(x, "1+"), -102);
        Due.is("6: it empties the tape", x.count(4), 0);
        Due.is("6: no law came", x.count(1), 3);
        Due.is("6: many lines", Due.law(x, "0?1" + ";0?1".repeat(28) + ";7"), 3);
        Due.is("6: its rise", x.rise(3, 0), 7);
        Due.is("6: the fifth", Due.law(x, "c"), FULL);
        Due.is("6: the tape stays", x.count(4), 1);
        Due.feed(x, "?");
        Due.is("6: full goes ahead of a fault", x.law(), FULL);
        Due.is("6: the tape stays", x.count(4), 2);
        Due.is("6: the first is as it was", x.rise(0, 9), 9);
    }

    private static void lawFaults() {
        lawFault("", 0);
        lawFault("z", 0);
        lawFault("H", 0);
        lawFault("h ", 1);
        lawFault(" h", 0);
        lawFault("hh", 1);
        lawFault("h1", 1);
        lawFault("1h", 1);
        lawFault("12345", 4);
        lawFault("1+", 2);
        lawFault("1+*", 2);
        lawFault("+1", 0);
        lawFault("*1", 0);
        lawFault("1<2<3", 3);
        lawFault("1<2=3", 3);
        lawFault("1=2>3", 3);
        lawFault("1<", 2);
        lawFault("1|", 2);
        lawFault("1||2", 2);
        lawFault("1&", 2);
        lawFault("1&&2", 2);
        lawFault("(1", 2);
        lawFault("()", 1);
        lawFault("(1))", 3);
        lawFault("1)", 1);
        lawFault("(1;2)", 2);
        lawFault("(1?2)", 2);
        lawFault("1?", 2);
        lawFault("?1", 0);
        lawFault("1?2?3", 3);
        lawFault("1;", 2);
        lawFault(";1", 0);
        lawFault("1;;2", 2);
        lawFault("1?;2", 2);
        lawFault("1!", 1);
        lawFault("!", 1);
        lawFault("-", 1);
        lawFault("!)", 1);
        lawFault("(((((((h)))))))", 6);
        lawFault("!!!!!!!h", 6);
        lawFault("-------h", 6);
        lawFault("(!-(!-!h))", 6);
        lawFault("!!!!!!-", 6);
        lawFault("!!!!!!-5", 6);
        lawFault("!!!!!!--5", 6);
        lawFault("!!!!!!(5)", 6);
        lawFault("-----!-5", 6);
        lawFault("(((((!-5)))))", 6);
        lawFault("------!5", 6);
        lawFault("((((((-5))))))", 6);
        lawFault("(((((!5-!-5)))))", 9);
        lawFault("!!!!!!5-!!!!!!-5", 14);
        lawFault("1?!!!!!!-5", 8);
        lawFault("1;!!!!!!-5", 8);
        lawFault("!!!!!!", 6);
        lawFault("((((((h)))))+(((((((", 18);
        lawFault("((((((h", 7);
        lawFault("((((((h)))))", 12);
        lawFault("((((((-h))))))", 6);
        lawFault("((((((+", 6);
        lawFault("1?(((((((h", 8);
        lawFault("1?2;(((((((h", 10);
        lawFault("\u0000", 0);
        lawFault("1\u00ff", 1);
    }

    private static void lawFault(String text, int fault) {
        AcrossOnFoot x = new AcrossOnFoot();
        Due.is("6: " + text, Due.law(x, text), -100 - fault);
        Due.is("6: laws after " + text, x.count(1), 0);
        Due.is("6: the tape after " + text, x.count(4), 0);
    }

    private static void force() {
        AcrossOnFoot x = Due.at("3,4,5/7");
        Due.is("7: no such law", x.force(0), -2);
        Due.law(x, "1");
        Due.law(x, "2");
        Due.is("7: none is in force at first", x.cell(0, 0, 3, 0), 3);
        Due.is("7: the second", x.force(1), -1);
        Due.is("7: it counts", x.cell(0, 0, 3, 0), 5);
        Due.is("7: the first", x.force(0), 1);
        Due.is("7: it counts", x.cell(0, 0, 3, 0), 4);
        Due.is("7: no such law", x.force(2), -2);
        Due.is("7: no such law", x.force(-2), -2);
        Due.is("7: it counts still", x.cell(0, 0, 3, 0), 4);
        Due.is("7: none", x.force(-1), 0);
        Due.is("7: none counts", x.cell(0, 0, 3, 0), 3);
        Due.is("7: none was", x.force(-1), -1);
    }

    private static void sky() {
        AcrossOnFoot x = new AcrossOnFoot();
        Due.law(x, "r*10-i");
        Due.is("8: rain", x.sky(0, 4), 0);
        Due.is("8: ice", x.sky(1, 7), 0);
        Due.is("8: both count", x.rise(0, 0), 33);
        Due.is("8: rain was", x.sky(0, 99), 4);
        Due.is("8: ice was", x.sky(1, 99), 7);
        Due.is("8: ice was", x.sky(1, 0), 99);
        Due.is("8: rain was", x.sky(0, 0), 99);
        int[][] bad = {{2, 0}, {-1, 0}, {0, 100}, {0, -1}, {1, 100}, {1, -1}};
        for (int[] b : bad) {
            Due.is("8: " + java.util.Arrays.toString(b), x.sky(b[0], b[1]), BAD);
        }
        Due.is("8: it is no change that may be undone", x.count(5), 0);
    }

    private static void rise() {
        Object[][] rows = {
            {"h", 13, 13}, {"h", 47, 47}, {"c", 30, 6}, {"c", 24, 0}, {"c", 23, 23}, {"r", 0, 17}, {"i", 0, 5},
            {"0", 0, 0}, {"0007", 0, 7}, {"9999", 0, 60}, {"-9999", 0, -20}, {"61", 0, 60}, {"-21", 0, -20},
            {"1+2*3", 0, 7}, {"(1+2)*3", 0, 9}, {"7-2-1", 0, 4}, {"7-(2-1)", 0, 6}, {"24/4/2", 0, 3},
            {"7/2", 0, 3}, {"-7/2", 0, -3}, {"7%4", 0, 3}, {"-7%4", 0, -3}, {"7%-4", 0, 3}, {"5/0", 0, 0},
            {"5%0", 0, 0}, {"20/3*3", 0, 18}, {"1<2", 0, 1}, {"2<2", 0, 0}, {"2=2", 0, 1}, {"2=3", 0, 0},
            {"3>2", 0, 1}, {"2>2", 0, 0}, {"!5", 0, 0}, {"!0", 0, 1}, {"!!5", 0, 1}, {"!-5", 0, 0}, {"-!0", 0, -1},
            {"-5", 0, -5}, {"--5", 0, 5}, {"1--1", 0, 2}, {"0|7", 0, 1}, {"7|0", 0, 1}, {"0|0", 0, 0},
            {"3&4", 0, 1}, {"3&0", 0, 0}, {"0&3", 0, 0}, {"1|0&0", 0, 1}, {"0&0|1", 0, 1}, {"(1|0)&0", 0, 0},
            {"1=1+1", 0, 0}, {"2*3<7", 0, 1}, {"1<2&2<3", 0, 1}, {"1<2|2<1", 0, 1}, {"!1+1", 0, 1}, {"!(1+1)", 0, 0},
            {"-2*3", 0, -6}, {"-2+3", 0, 1}, {"(1<2)<3", 0, 1}, {"1=0|0", 0, 0}, {"2&1+1", 0, 1},
            {"h<10?5;h<20?9;12", 3, 5}, {"h<10?5;h<20?9;12", 10, 9}, {"h<10?5;h<20?9;12", 20, 12},
            {"h<10?5", 9, 5}, {"h<10?5", 10, 0}, {"0?5;0?6", 0, 0}, {"2?3", 0, 3}, {"-1?3;4", 0, 3}, {"8;9", 0, 8},
            {"0?5;8;9", 0, 8}, {"0;9", 0, 0}, {"1?0;9", 0, 0},
            {"-2*1024*1024*1024/-1", 0, -20}, {"-2*1024*1024*1024%-1", 0, 0}, {"2*1024*1024*1024", 0, -20},
            {"2*1024*1024*1024-1", 0, 60}, {"4096*1024*1024+3", 0, 3},
            {"((((((h))))))", 9, 9}, {"1?((((((h))))))", 9, 9}, {"0?1;!!!!((h))?((((((c))))))", 30, 6},
            {"!!!!!!7", 0, 1}, {"------7", 0, 7},
            {"!!!!!-7", 0, 0}, {"-----!0", 0, -1}, {"(((((!5-5)))))", 0, -5}, {"!!!!!!5-!!!!!!5", 0, 0},
            {"(((((!0--5)))))", 0, 6}, {"((h)+(h))*((h))", 2, 8},
            {"(-(-(-h)))", 2, -2}, {"1|1&1=1+1*(1|1&1=1+1*(1|1&1=1+1*(0)))", 0, 1},
        };
        for (Object[] row : rows) {
            AcrossOnFoot x = new AcrossOnFoot();
            x.sky(0, 17);
            x.sky(1, 5);
            Due.is("9: " + row[0], Due.law(x, (String) row[0]), 0);
            Due.is("9: " + row[0] + " at " + row[1], x.rise(0, (Integer) row[1]), (Integer) row[2]);
        }
        AcrossOnFoot x = new AcrossOnFoot();
        Due.law(x, "h");
        int[][] bad = {{1, 0}, {-1, 0}, {0, 48}, {0, -1}};
        for (int[] b : bad) {
            Due.is("9: " + java.util.Arrays.toString(b), x.rise(b[0], b[1]), VOID);
        }
        Due.is("9: a law need not be in force", x.rise(0, 31), 31);
    }

    private static void person() {
        AcrossOnFoot x = new AcrossOnFoot();
        int[][] bad = {
            {2918, 0}, {12118, 0}, {3009, 0}, {3023, 0}, {3010, 41}, {3010, 1000}, {3010, 941}, {-1, 0}, {3010, -1},
            {3010, 99}, {Integer.MIN_VALUE, 0}, {Integer.MAX_VALUE, 0}, {3010, Integer.MAX_VALUE},
        };
        for (int[] b : bad) {
            Due.is("10: " + java.util.Arrays.toString(b), x.person(b[0], b[1]), BAD);
        }
        Due.is("10: the least", x.person(3010, 0), 0);
        Due.is("10: the greatest", x.person(12022, 940), 1);
        for (int n = 2; n <= 7; n++) {
            Due.is("10: person " + n, x.person(7018, 420), n);
        }
        Due.is("10: the ninth", x.person(7018, 420), FULL);
        Due.is("10: bad goes ahead of full", x.person(0, 0), BAD);
        Due.is("10: how many", x.count(2), 8);
    }

    private static void set() {
        AcrossOnFoot x = new AcrossOnFoot();
        addThree(x);
        Due.is("11: legs", x.set(0, 0, 9), 4);
        Due.is("11: pack", x.set(0, 1, 40), 20);
        Due.is("11: legs then", x.of(0, 2), 9);
        Due.is("11: pack then", x.of(0, 3), 40);
        Due.is("11: legs again", x.set(0, 0, 0), 9);
        Due.is("11: pack again", x.set(0, 1, 0), 40);
        Due.is("11: another's legs", x.of(1, 2), 9);
        int[][] bad = {{3, 0, 0}, {-1, 0, 0}, {0, 2, 0}, {0, -1, 0}, {0, 0, 10}, {0, 0, -1}, {0, 1, 41}, {0, 1, -1}};
        for (int[] b : bad) {
            Due.is("11: " + java.util.Arrays.toString(b), x.set(b[0], b[1], b[2]), BAD);
        }
        Due.is("11: changes", x.count(5), 4);
    }

    private static void of() {
        AcrossOnFoot x = new AcrossOnFoot();
        addThree(x);
        int[][] told = {{70, 18, 4, 20}, {50, 10, 9, 5}, {120, 22, 0, 0}};
        for (int person = 0; person < 3; person++) {
            for (int what = 0; what < 4; what++) {
                Due.is("12: of(" + person + ", " + what + ")", x.of(person, what), told[person][what]);
            }
        }
        int[][] bad = {{3, 0}, {-1, 0}, {0, 4}, {0, -1}};
        for (int[] b : bad) {
            Due.is("12: " + java.util.Arrays.toString(b), x.of(b[0], b[1]), BAD);
        }
    }

    private static void margin() {
        AcrossOnFoot x = Due.at("3,4,5;9,10,2;0,0,0/7", "10,0,0;22,3,9/0");
        addThree(x);
        // alike in all forms, in cell 1: 55 * 6 = 330, 10 * 11 = 110, 71 * 2 = 142; 900 pushes
        fares(x, "ALONE", 0, 10, 1, 363, 90, 273);
        fares(x, "ALONE", 0, 20, 1, 121, 90, 31);
        fares(x, "ALONE", 0, 320, 101, 121, 90, 31);
        fares(x, "ALONE", 0, 10, 0, 782, 4, 778);
        fares(x, "ALONE, nothing to hold by", 0, 30, 2, 0, 0, 0);
        fares(x, "ROWED, rank 0", 0, 1231, 1, 330, 90, 240);
        fares(x, "ROWED, rank 1", 0, 1231, 101, 110, 76, 34);
        fares(x, "ROWED, rank 2", 0, 1231, 201, 142, 63, 79);
        fares(x, "WEDGED, rank 0", 0, 2312, 1, 110, 90, 20);
        fares(x, "WEDGED, rank 1", 0, 2312, 101, 142, 54, 88);
        fares(x, "WEDGED, rank 2", 0, 2312, 201, 330, 54, 276);
        fares(x, "LINED, rank 0", 0, 123, 1, 275, 90, 185);
        fares(x, "LINED, rank 1", 0, 123, 101, 165, 90, 75);
        fares(x, "LINED, the mean is cut", 0, 123, 0, 673, 4, 669);
        fares(x, "LINED, the mean is cut", 0, 123, 100, 597, 4, 593);
        fares(x, "LINED, three", 0, 1323, 201, 152, 90, 62);
        fares(x, "LINED, one", 0, 13, 1, 330, 90, 240);
        fares(x, "as deep as high", 100, 20, 0, 49, 0, -9999);
        fares(x, "deeper than high", 100, 20, 1, 99, 9, -9999);
        fares(x, "less deep than high", 100, 10, 0, 228, 0, 228);
        fares(x, "ROWED, as deep as high", 100, 231, 101, 0, 16, -9999);
        x.person(7018, 420);
        x.person(7018, 420);
        fares(x, "WEDGED, rank 3", 0, 123452, 301, 330, 36, 294);
        fares(x, "WEDGED, rank 4", 0, 123452, 401, 330, 36, 294);
        fares(x, "ROWED, rank 4", 0, 123451, 401, 330, 36, 294);
        fares(x, "ROWED, rank 3", 0, 123451, 301, 330, 49, 281);
        force(x, "h-5");
        fares(x, "by a rise of 0", 5, 11, 1, 330, 90, 240);
        fares(x, "by a rise of 1: 10 deep, 10 quick", 6, 11, 1, 312, 100, 212);
        fares(x, "by a rise of -5: 4 deep, 7 quick", 0, 11, 1, 450, 19, 431);
        x.set(0, 1, 0);
        fares(x, "without the pack", 5, 11, 1, 210, 90, 120);
    }

    private static void fares(AcrossOnFoot x, String what, int ph, int gf, int ki, int hold, int push, int margin) {
        String call = "13: " + what + ", margin(" + ph + ", " + gf + ", " + ki + ", ";
        Due.is(call + "0)", x.margin(ph, gf, ki, 0), margin);
        Due.is(call + "1)", x.margin(ph, gf, ki, 1), hold);
        Due.is(call + "2)", x.margin(ph, gf, ki, 2), push);
    }

    /** Ways in which ph and gf are not as said, with one place and three people. */
    private static final int[][] BAD_PH_GF = {
        {100, 10}, {48, 10}, {-1, 10}, {-100, 10}, {99, 10}, {600, 10}, {0, 40}, {0, 14}, {0, 19}, {0, 110}, {0, 1210},
        {0, 100}, {0, 1000}, {0, 10}, {0, 0}, {0, -1}, {0, -10}, {0, 1231230}, {0, 910}, {0, 120}, {0, 1020},
    };

    /** One place and three people, of whom nobody is the first; the group 10 is one of nobody. */
    private static boolean isBad(int[] b) {
        return !(b[0] == 0 && (b[1] == 10 || b[1] == 120));
    }

    private static void marginBad() {
        AcrossOnFoot x = Due.at("3,4,5;9,10,2/7");
        addThree(x);
        for (int[] b : BAD_PH_GF) {
            if (isBad(b)) {
                String call = "(" + b[0] + ", " + b[1] + ", ..)";
                Due.is("13: margin" + call, x.margin(b[0], b[1], 0, 0), VOID);
                Due.is("14: over" + call, x.over(b[0], b[1], 0), VOID);
                Due.is("15: order" + call, x.order(b[0], b[1], 0), VOID);
                Due.is("17: gusts" + call, x.gusts(b[0], b[1], 1, 101, 0), BAD);
                Due.is("18: await" + call, x.await(b[0], b[1]), BAD);
                Due.is("20: midst" + call, x.midst(b[0], b[1], 1, 0), BAD);
                Due.is("23: roped" + call, x.roped(b[0], b[1], 0), BAD);
            }
        }
        int[][] badKi = {{2, 0}, {100, 0}, {-1, 0}, {-100, 0}, {0, 3}, {0, -1}, {99, 0}};
        for (int[] b : badKi) {
            Due.is("13: margin(0, 10, " + b[0] + ", " + b[1] + ")", x.margin(0, 10, b[0], b[1]), VOID);
        }
        Due.is("13: a rank too many", x.margin(0, 120, 200, 0), VOID);
        Due.is("13: the last rank and cell", x.margin(0, 121, 101, 0), 34);
        x.person(7018, 420);
        x.person(7018, 420);
        x.person(7018, 420);
        Due.is("13: six are too many", x.margin(0, 1234560, 0, 0), VOID);
        Due.is("13: five are not", x.margin(0, 123451, 0, 0), 707);
    }

    private static void lees() {
        AcrossOnFoot x = Due.at("9,30,2/0");
        for (int n = 0; n < 5; n++) {
            x.person(7018, 420);
        }
        // 8100 times the LEE by 1000
        int[][] pushes = {
            {810, 810, 810, 810, 810}, {810, 688, 567, 445, 324}, {810, 486, 486, 324, 324}, {810, 810, 810, 810, 810},
        };
        for (int form = 0; form < 4; form++) {
            for (int rank = 0; rank < 5; rank++) {
                fares(x, "form " + form, 0, 123450 + form, 100 * rank, form == 0 ? 363 : 330, pushes[form][rank],
                    (form == 0 ? 363 : 330) - pushes[form][rank]);
            }
        }
    }

    /** Each place at each hour is as a place that is alone, by a law that tells the same rise at all hours. */
    private static void placesAndHours() {
        String[] places = {"3,4,5/1", "5,6,1;4,9,2/2", "9,10,2/3", "1,12,0;8,2,2;6,6,6/4", "10,3,9/5", "7,8,3;2,14,4/6"};
        for (int hour = 0; hour < 48; hour++) {
            AcrossOnFoot x = Due.at(places);
            addThree(x);
            force(x, "h/2-9");
            for (int place = 0; place < 6; place++) {
                AcrossOnFoot y = Due.at(places[place]);
                addThree(y);
                force(y, "" + (hour / 2 - 9));
                int ph = 100 * place + hour;
                Due.is("4: depth, ph " + ph, x.cell(place, 0, 3, hour), y.cell(0, 0, 3, 0));
                Due.is("4: pace, ph " + ph, x.cell(place, 0, 4, hour), y.cell(0, 0, 4, 0));
                Due.is("13: ph " + ph, x.margin(ph, 1232, 201, 0), y.margin(0, 1232, 201, 0));
                Due.is("13: ph " + ph, x.margin(ph, 1231, 100, 0), y.margin(0, 1231, 100, 0));
                Due.is("14: ph " + ph, x.over(ph, 1233, 1), y.over(0, 1233, 1));
                Due.is("14: ph " + ph, x.over(ph, 1233, 2), y.over(0, 1233, 2));
                Due.is("15: ph " + ph, x.order(ph, 1231, 0), y.order(0, 1231, 0));
                Due.is("15: ph " + ph, x.order(ph, 1231, 1), y.order(0, 1231, 1));
                Due.is("17: ph " + ph, x.gusts(ph, 231, hour, 2010, 1), y.gusts(0, 231, hour, 2010, 1));
                Due.is("19: ph " + ph, x.mustNot(ph), y.mustNot(0));
                Due.is("21: ph " + ph, x.line(place, 1232), y.line(0, 1232));
                Due.is("23: ph " + ph, x.roped(ph, 1231, 100), y.roped(0, 1231, 100));
                int last = y.cell(0, -1, 0, 0) - 1;
                Due.is("13: ph " + ph, x.margin(ph, 1233, 100 + last, 0), y.margin(0, 1233, 100 + last, 0));
                Due.is("23: ph " + ph, x.roped(ph, 1232, 100 + last), y.roped(0, 1232, 100 + last));
                Due.is("23: a cell too many, ph " + ph, x.roped(ph, 1232, 101 + last), BAD);
                Due.is("24: ph " + ph, x.stick(ph, 83), y.stick(0, 83));
            }
        }
    }

    /** What goes on for hours at each place is as at a place that is alone, by the same law. */
    private static void placesForHours() {
        String[] places = {"3,4,5/1", "5,6,1;4,9,2/2", "9,10,2/3", "1,12,0;8,2,2;6,6,6/4", "9,3,9/5", "7,8,3;2,14,4/6"};
        String law = "h%7*2-7+h%3";
        for (int place = 0; place < 6; place++) {
            AcrossOnFoot x = Due.at(places);
            addThree(x);
            force(x, law);
            AcrossOnFoot y = Due.at(places[place]);
            addThree(y);
            force(y, law);
            for (int hour = 0; hour < 48; hour++) {
                int ph = 100 * place + hour;
                for (int gf : new int[] {11, 230}) {
                    Due.is("18: ph " + ph, x.await(ph, gf), y.await(hour, gf));
                    Due.is("20: ph " + ph, x.midst(ph, gf, 60, 0), y.midst(hour, gf, 60, 0));
                    Due.is("20: ph " + ph, x.midst(ph, gf, 60, 1), y.midst(hour, gf, 60, 1));
                }
            }
        }
    }

    /** Of two people the first holds just as much as pushes, the second one less. */
    private static void atTheEdge() {
        AcrossOnFoot x = Due.at("5,10,0;5,10,0/3");
        x.person(3010, 208);
        x.person(3010, 300);
        Due.is("14: margin 0 stands", x.over(0, 10, 0), 1);
        Due.is("14: margin 0 is the least", x.over(0, 10, 1), 0);
        Due.is("14: margin -1 does not stand", x.over(0, 20, 0), 0);
        Due.is("14: margin -1 is the first", x.over(0, 210, 2), 0);
        Due.is("14: margin -1 is the least", x.over(0, 120, 1), -1);
        Due.is("17: margin 0", x.gusts(0, 10, 5, 5001, 0), 50);
        Due.is("17: margin -1", x.gusts(0, 20, 5, 5001, 0), 0);
        Due.is("18: margin 0", x.await(7, 10), 7);
        Due.is("18: margin -1", x.await(7, 20), NOT);
        Due.is("20: margin 0", x.midst(7, 10, 1, 0), 2);
        Due.is("20: margin -1", x.midst(7, 20, 1, 0), 0);
        Due.is("21: margin 0", x.line(0, 10), 0);
        Due.is("21: margin -1", x.line(0, 20), -1);
        x.mend(0, 1, 1, 11);
        Due.is("20: margin -10 in cell 1", x.midst(7, 10, 60, 0), 1);
        Due.is("20: margin 0 on the way back", x.midst(7, 10, 60, 1), 1);
        // as the last ROWED with LEE 40: 46 and 45 hold; 5 times the pace squared times 40 / 1000 pushes
        AcrossOnFoot y = Due.at("5,15,0/0");
        y.person(3010, 208);
        y.person(3010, 300);
        y.person(3010, 207);
        y.person(3010, 101);
        Due.is("19: 45 push: of 46, 45, 44, 16", y.mustNot(0), 12);
    }

    private static void over() {
        AcrossOnFoot x = Due.at("3,4,5;9,10,2;0,0,0/7", "0,0,9;9,12,2;10,0,9/0");
        addThree(x);
        Due.is("14: all stand", x.over(0, 1231, 0), 1);
        Due.is("14: least", x.over(0, 1231, 1), 0);
        Due.is("14: first", x.over(0, 1231, 2), NOT);
        Due.is("14: least of one", x.over(0, 20, 1), 31);
        Due.is("14: least of two", x.over(0, 122, 1), 56);
        Due.is("14: not all stand", x.over(100, 1231, 0), 0);
        // in cell 1 of place 1 129 pushes: ROWED 330 - 129, 110 - 110, 142 - 90; 10 is too deep for the second
        Due.is("14: least", x.over(100, 1231, 1), -9999);
        Due.is("14: first", x.over(100, 1231, 2), 201);
        Due.is("14: least", x.over(100, 2131, 1), -9999);
        Due.is("14: first", x.over(100, 2131, 2), 100);
        // LINED 110 and 142: mean 126: 118 - 129, 134 - 129
        Due.is("14: first", x.over(100, 323, 2), 101);
        Due.is("14: least", x.over(100, 13, 1), 201);
        Due.is("14: over", x.over(100, 13, 0), 1);
        force(x, "h");
        Due.is("14: at hour 0", x.over(100, 13, 0), 1);
        Due.is("14: at hour 9", x.over(109, 13, 0), 0);
        Due.is("14: what", x.over(0, 10, 3), VOID);
        Due.is("14: what", x.over(0, 10, -1), VOID);
    }

    private static void order() {
        AcrossOnFoot x = Due.at("9,10,2/7");
        addThree(x);
        // ROWED 90, 76, 63 push, by margins alike in all forms 330, 110, 142: the second last is best
        Due.is("15: ROWED", x.order(0, 2311, 0), 132);
        Due.is("15: its least", x.order(0, 2311, 1), 47);
        // WEDGED: the first one first is best, and then 60 60 are alike
        Due.is("15: WEDGED", x.order(0, 3212, 0), 123);
        Due.is("15: its least", x.order(0, 3212, 1), 56);
        Due.is("15: ALONE all orders are alike", x.order(0, 3210, 0), 123);
        Due.is("15: its least", x.order(0, 3210, 1), 31);
        Due.is("15: LINED", x.order(0, 323, 0), 23);
        Due.is("15: its least", x.order(0, 323, 1), 28);
        Due.is("15: one", x.order(0, 31, 0), 3);
        Due.is("15: its least", x.order(0, 31, 1), 52);
        Due.is("15: what", x.order(0, 10, 2), VOID);
        Due.is("15: what", x.order(0, 10, -1), VOID);
        for (int n = 0; n < 5; n++) {
            x.person(3010 + 1000 * n, 100 * n);
        }
        int[] best = {0, VOID};
        seekOrder(x, 0, 0, best);
        Due.is("15: five of eight", x.order(0, 876541, 0), best[0]);
        Due.is("15: its least", x.order(0, 876541, 1), best[1]);
    }

    /** The strongest goes first, so the last of all orders is the best. */
    private static void orderOfStrength() {
        AcrossOnFoot x = Due.at("9,27,0/0");
        for (int legs = 1; legs <= 5; legs++) {
            x.person(12018, 100 * legs + 38);
        }
        // ROWED: 98 times LEGS hold, 656, 557, 459, 360, 262 push: by that order -166 to -164
        Due.is("15: the strongest first", x.order(0, 123451, 0), 54321);
        Due.is("15: its least", x.order(0, 123451, 1), -166);
        Due.is("15: ALONE", x.order(0, 543210, 0), 12345);
    }

    /** Goes through all orders of 4 to 8 by rising digits, one digit more at a time. */
    private static void seekOrder(AcrossOnFoot x, int digits, int used, int[] best) {
        if (digits > 9999) {
            int least = x.over(0, 10 * digits + 1, 1);
            if (least > best[1]) {
                best[0] = digits;
                best[1] = least;
            }
            return;
        }
        for (int digit : new int[] {4, 5, 6, 7, 8}) {
            if ((used >> digit & 1) == 0) {
                seekOrder(x, 10 * digits + digit, used | 1 << digit, best);
            }
        }
    }

    private static void best() {
        AcrossOnFoot x = new AcrossOnFoot();
        addThree(x);
        Due.is("16: no places", x.best(1, 747, 0), NOT);
        Due.is("16: no places", x.best(1, 747, 1), NOT);
        Due.place(x, "9,10,2/0");
        Due.place(x, "9,5,2/0");
        Due.place(x, "9,5,2/0");
        // place 1: 22 push; ALONE 363 - 22
        Due.is("16: the first of like ones", x.best(1, 47, 0), 5010);
        Due.is("16: least", x.best(1, 47, 1), 341);
        x.mend(0, 0, 1, 5);
        Due.is("16: place 0 is the first of like ones", x.best(1, 47, 0), 5000);
        x.mend(0, 0, 1, 10);
        // ROWED 110 - 22, 142 - 19; WEDGED 88, 129; LINED 118 - 22, 134 - 22; ALONE 121 - 22, 156 - 22
        Due.is("16: two", x.best(23, 511, 0), 5010);
        Due.is("16: two", x.best(23, 511, 1), 99);
        // LINED 250 - 22, 170 - 22 (mean 330, 110: 220): 275 - 22, 165 - 22
        Due.is("16: lined", x.best(12, 511, 0), 5013);
        Due.is("16: lined", x.best(12, 511, 1), 143);
        Due.is("16: hours that are dark", x.best(1, 4, 0), NOT);
        Due.is("16: hour 0 is dark", x.best(1, 0, 0), NOT);
        Due.is("16: hours that are dark", x.best(1, 2028, 0), NOT);
        Due.is("16: hours that are dark", x.best(1, 4447, 1), NOT);
        Due.is("16: hour 19", x.best(1, 1919, 0), 19010);
        Due.is("16: hour 29", x.best(1, 2029, 0), 29010);
        force(x, "h=4?-20;h=20?-20;h=7?-1;h=9?-2;h=11?-2;5");
        Due.is("16: the water counts", x.best(1, 47, 0), 9010);
        Due.is("16: one hour", x.best(1, 707, 0), 7010);
        Due.is("16: the last hour", x.best(1, 1011, 0), 11010);
        // 7 deep, 4 quick: 63 * 6 = 378 and 37, 11 push
        Due.is("16: its least", x.best(1, 1011, 1), 404);
        int[][] bad = {
            {0, 747, 0}, {4, 747, 0}, {11, 747, 0}, {-1, 747, 0}, {1, 748, 0}, {1, 4848, 0}, {1, 700, 0}, {1, -1, 0},
            {1, 747, 2}, {1, 747, -1}, {10, 747, 0}, {123123, 747, 0}, {1, 706, 0}, {1, -505, 0},
        };
        for (int[] b : bad) {
            Due.is("16: " + java.util.Arrays.toString(b), x.best(b[0], b[1], b[2]), VOID);
        }
    }

    private static void gusts() {
        AcrossOnFoot x = Due.at("9,10,2;3,4,5;9,10,2/7", "9,10,2/0");
        addThree(x);
        // ALONE, the second: 121 holds; 9 (10 + g) (10 + g) / 10 pushes: g of 1 at most
        for (int seed = -3; seed <= 3; seed++) {
            int overs = 0;
            int z = seed;
            for (int n = 0; n < 50; n++) {
                boolean over = true;
                for (int i = 0; i < 3; i++) {
                    z = z * 1103515245 + 12345;
                    over &= i == 1 || (z >>> 8) % 3 <= 1;
                }
                overs += over ? 1 : 0;
            }
            Due.is("17: seed " + seed, x.gusts(0, 20, seed, 5003, 0), overs);
            Due.is("17: harm, seed " + seed, x.gusts(0, 20, seed, 5003, 1), 7 * (50 - overs));
        }
        // z of seed 1: 1103527590, -1770914761, 377401600 (>>> 8 of them 4310654, 9859653, 1474225)
        Due.is("17: a gust of 0", x.gusts(100, 20, 1, 102, 0), 1);
        Due.is("17: a gust of 14", x.gusts(100, 20, 1, 120, 0), 0);
        Due.is("17: G of 1", x.gusts(0, 20, 99, 5001, 0), 50);
        Due.is("17: no harm", x.gusts(0, 20, 99, 5001, 1), 0);
        Due.is("17: nothing below", x.gusts(100, 20, 1, 120, 1), 0);
        Due.is("17: harm", x.gusts(0, 20, 1, 120, 1), 7);
        force(x, "h");
        Due.is("17: by the hour", x.gusts(1, 20, 99, 5001, 0), 0);
        int[][] bad = {
            {100, 0}, {121, 0}, {99, 0}, {20, 0}, {5101, 0}, {-101, 0}, {101, 2}, {101, -1}, {0, 0}, {5000, 0}, {10005, 0},
        };
        for (int[] b : bad) {
            Due.is("17: " + java.util.Arrays.toString(b), x.gusts(0, 10, 1, b[0], b[1]), BAD);
        }
    }

    private static void await() {
        int[][] lit = {{5, 5}, {19, 19}, {29, 29}, {43, 43}, {4, NOT}, {20, NOT}, {28, NOT}, {44, NOT}, {47, NOT}};
        for (int[] row : lit) {
            AcrossOnFoot x = Due.at("5,5,9/0");
            addThree(x);
            force(x, "h=" + row[0] + "?0;60");
            Due.is("18: over at " + row[0], x.await(0, 10), row[1]);
        }
        AcrossOnFoot x = Due.at("5,5,9/0", "30,5,9/0");
        addThree(x);
        Due.is("18: from hour 0 on", x.await(0, 10), 5);
        Due.is("18: from hour 12 on", x.await(12, 10), 12);
        Due.is("18: from hour 20 on", x.await(20, 10), 29);
        Due.is("18: from hour 44 on", x.await(44, 10), NOT);
        Due.is("18: too deep", x.await(100, 10), NOT);
        force(x, "h<31?60");
        Due.is("18: the water falls", x.await(3, 1231), 31);
        Due.is("18: no such place", x.await(200, 10), BAD);
    }

    private static void mustNot() {
        AcrossOnFoot x = Due.at("9,10,2/0", "9,20,2;0,0,0/0", "0,0,0;9,16,2/0", "10,0,9/0");
        Due.is("19: nobody is there", x.mustNot(0), 0);
        addThree(x);
        // with LEE 40: 36 push; 144 push; 92 push, of 330, 110, 142 as ROWED
        Due.is("19: all stand", x.mustNot(0), 0);
        Due.is("19: two do not", x.mustNot(100), 6);
        Due.is("19: 92 and less", x.mustNot(200), 0);
        x.mend(2, 1, 1, 18);
        Due.is("19: 116", x.mustNot(200), 2);
        Due.is("19: too deep", x.mustNot(300), 2);
        force(x, "h");
        Due.is("19: by the hour", x.mustNot(309), 7 - 4);
        Due.is("19: by the hour", x.mustNot(312), 7);
        for (int bad : new int[] {400, 48, -1, 348, Integer.MIN_VALUE, Integer.MAX_VALUE}) {
            Due.is("19: mustNot(" + bad + ")", x.mustNot(bad), BAD);
        }
    }

    private static void midst() {
        AcrossOnFoot x = Due.at("2,0,9;2,0,9;9,0,9;2,0,9/0", "10,0,9/0");
        addThree(x);
        Due.is("20: all stand", x.midst(5, 20, 60, 0), 4);
        Due.is("20: there is no such cell", x.midst(5, 20, 60, 1), NOT);
        Due.is("20: the first cell", x.midst(105, 20, 60, 0), 0);
        Due.is("20: they are on the bank", x.midst(105, 20, 60, 1), 1);
        force(x, "h=7?1");
        Due.is("20: cell 2 at hour 7", x.midst(5, 20, 60, 0), 2);
        Due.is("20: they come back", x.midst(5, 20, 60, 1), 1);
        Due.is("20: cell 2 at hour 6", x.midst(5, 20, 59, 0), 4);
        Due.is("20: cell 2 at hour 7", x.midst(6, 20, 30, 0), 2);
        Due.is("20: cell 2 at hour 6", x.midst(6, 20, 29, 0), 4);
        Due.is("20: others stand", x.midst(5, 10, 60, 0), 4);
        force(x, "h=7?1;h=8?60");
        Due.is("20: they do not come back by cell 0 at hour 8", x.midst(5, 20, 60, 1), 0);
        Due.is("20: they come back by cell 0 at hour 7", x.midst(6, 20, 30, 1), 1);
        x.force(-1);
        AcrossOnFoot w = Due.at("2,0,9;2,0,9;9,0,9/0");
        addThree(w);
        force(w, "h=7?9");
        Due.is("20: they do not come back by cell 1 at hour 7", w.midst(5, 20, 60, 1), 0);
        force(w, "h=7?7");
        Due.is("20: they come back by cell 1 at hour 7", w.midst(5, 20, 60, 1), 1);
        x.force(-1);
        AcrossOnFoot y = Due.at("2,0,9;8,0,9;2,0,9;2,0,9;9,0,9/0");
        addThree(y);
        // cell 4 at hour 12 and 4 * 45 / 60; back by cells 3, 2, 1, 0 at 15, 15, 16, 17
        force(y, "h=15?1");
        Due.is("20: cell 4 at hour 15", y.midst(12, 20, 45, 0), 4);
        Due.is("20: back", y.midst(12, 20, 45, 1), 1);
        force(y, "h=15?1;h=16?2");
        Due.is("20: cell 1 at hour 16", y.midst(12, 20, 45, 1), 0);
        force(y, "h=15?1;h=17?60");
        Due.is("20: cell 0 at hour 17", y.midst(12, 20, 45, 1), 0);
        y.force(-1);
        force(y, "h=47?1");
        Due.is("20: hour 47 is the last", y.midst(46, 20, 60, 0), 4);
        Due.is("20: hour 47 is the last", y.midst(46, 20, 60, 1), 1);
        int[][] bad = {{0, 0}, {61, 0}, {-1, 0}, {1, 2}, {1, -1}};
        for (int[] b : bad) {
            Due.is("20: " + java.util.Arrays.toString(b), y.midst(5, 20, b[0], b[1]), BAD);
        }
    }

    private static void line() {
        AcrossOnFoot x = Due.at("2,0,9/0", "30,0,9/0", "29,0,9/0", "0,0,9/0", "5,5,5/0");
        addThree(x);
        Due.is("21: less deep than 10", x.line(0, 20), 7);
        Due.is("21: less deep than 18", x.line(0, 10), 15);
        Due.is("21: never", x.line(1, 20), -100);
        Due.is("21: at -20", x.line(2, 20), -20);
        Due.is("21: less deep than 22", x.line(3, 30), 21);
        Due.is("21: all of them", x.line(0, 3120), 7);
        force(x, "60");
        Due.is("21: the law does not matter", x.line(0, 20), 7);
        // at 11: 16 deep, 7 quick: ALONE (90 - 62) * 9 = 252 and 25, 78 push; at 12: 17 deep, 8 quick
        Due.is("21: up to the chin", x.line(4, 10), 12);
        x.mend(4, 0, 1, 10);
        // ALONE at 10: 15 deep, 15 quick: (90 - 58) * 9 = 288 and 28, 337 push; at 9: 14, 14: 36 * 9 and 32, 274
        Due.is("21: quicker", x.line(4, 10), 9);
        // LINED, one: at 9 324 - 274
        Due.is("21: lined", x.line(4, 13), 9);
        int[][] bad = {{5, 10}, {-1, 10}, {0, 40}, {0, 14}, {0, 0}, {0, -10}, {0, 110}};
        for (int[] b : bad) {
            Due.is("21: " + java.util.Arrays.toString(b), x.line(b[0], b[1]), VOID);
        }
    }

    private static void wall() {
        AcrossOnFoot x = new AcrossOnFoot();
        addThree(x);
        Due.is("22: no places", x.wall(1, 0), NOT);
        Due.is("22: no places", x.wall(1, 1), -100);
        Due.place(x, "30,0,9/0");
        Due.is("22: never", x.wall(2, 0), NOT);
        Due.is("22: never", x.wall(2, 1), -100);
        Due.is("22: at -13", x.wall(1, 1), -13);
        Due.place(x, "2,0,9/0");
        Due.place(x, "2,0,9/0");
        Due.is("22: the first of like ones", x.wall(2, 0), 10);
        Due.is("22: its line", x.wall(2, 1), 7);
        AcrossOnFoot y = Due.at("9,30,9/0", "5,10,0/0", "9,30,9/0");
        y.person(3010, 208);
        y.person(3010, 200);
        y.person(12022, 940);
        // in cell 1 at 0 the first alone: 46, a tenth more, and 50 push; the third: (160 - 27) * 9 and more
        Due.is("22: ALONE is best for one", y.wall(1, 0), 10);
        Due.is("22: its line", y.wall(1, 1), 0);
        // 50 hold, 50 push: ALONE 0 is the line; ROWED 46 and 42; WEDGED 46 and 30, one deeper and as quick 40 and 36
        int[] lines = {0, 0, 1};
        for (int form = 0; form < lines.length; form++) {
            Due.is("22: two, form " + form, y.line(1, 310 + form), lines[form]);
        }
        Due.is("22: the third helps most", y.wall(31, 0), 13);
        Due.is("22: its line", y.wall(31, 1), y.line(1, 313));
        Due.is("22: lined is more", y.line(1, 313) > 1 ? 1 : 0, 1);
        Due.is("22: he needs no help", y.wall(3, 1), Math.max(y.line(0, 30), y.line(1, 30)));
        AcrossOnFoot z = Due.at("5,10,0/0");
        z.person(3010, 208);
        z.person(3010, 209);
        // 50 and 52 hold, 50 push; WEDGED 46 and 50, 48 and 30; LINED 47 and 47: at -1 all ALONE and LINED stand
        Due.is("22: two alike", z.wall(12, 0), 0);
        Due.is("22: two alike", z.wall(12, 1), 0);
        z.set(1, 1, 0);
        z.set(1, 0, 3);
        // the second: ROWED 45 and 42: the first is too weak to go first; with a pack he is not
        Due.is("22: the first ALONE, the second behind", z.wall(21, 1), Math.max(z.line(0, 211), z.line(0, 212)));
        z.set(0, 1, 12);
        Due.is("22: ROWED 54 and 45, and WEDGED no more", z.wall(12, 0), 1);
        z.set(1, 0, 2);
        z.set(1, 1, 3);
        Due.is("22: WEDGED 54 and 36, by 50 and 30", z.wall(12, 0), 2);
        Due.is("22: its line", z.wall(12, 1), 0);
        int[][] bad = {{0, 0}, {4, 0}, {11, 0}, {-1, 0}, {1, 2}, {1, -1}, {10, 0}};
        for (int[] b : bad) {
            Due.is("22: " + java.util.Arrays.toString(b), x.wall(b[0], b[1]), VOID);
        }
    }

    private static void roped() {
        AcrossOnFoot x = Due.at("5,10,0;0,0,0/0");
        // 50 push each, ALONE; margins 32, 16, -1, 25 and -9999
        x.person(3010, 500);
        x.person(3010, 400);
        x.person(3010, 300);
        x.person(3010, 308);
        Due.is("23: 32", x.margin(0, 10, 0, 0), 32);
        Due.is("23: 16", x.margin(0, 20, 0, 0), 16);
        Due.is("23: -1", x.margin(0, 30, 0, 0), -1);
        Due.is("23: 25", x.margin(0, 40, 0, 0), 25);
        Due.is("23: one alone", x.roped(0, 10, 0), 1);
        Due.is("23: 25 is not above 32", x.roped(0, 210, 0), 1);
        Due.is("23: 25 is above 16", x.roped(0, 120, 0), 3);
        Due.is("23: 25 is not above 25", x.roped(0, 140, 0), 1);
        Due.is("23: the other way", x.roped(0, 210, 100), 3);
        Due.is("23: by one, and by one who falls alone", x.roped(0, 1430, 0), 7);
        Due.is("23: by two, who had fallen ahead", x.roped(0, 2130, 0), 7);
        Due.is("23: -1 falls with nobody next to it", x.roped(0, 3410, 200), 7);
        Due.is("23: one by one", x.roped(0, 1240, 0), 3);
        Due.is("23: in the shallow one", x.roped(0, 2130, 1), 1);
        Due.is("23: in the shallow one", x.roped(0, 2130, 101), 2);
        force(x, "h");
        Due.is("23: by the hour", x.roped(5, 2140, 0), 7);
        int[][] bad = {{2, 0}, {100, 0}, {-1, 0}, {-100, 0}};
        for (int[] b : bad) {
            Due.is("23: roped(0, 10, " + b[0] + ")", x.roped(0, 10, b[0]), BAD);
        }
    }

    private static void stick() {
        AcrossOnFoot x = Due.at("0,8,0;0,10,0;0,12,0;0,13,0;0,7,0/0", "0,30,0;0,0,0/0");
        Due.is("24: 10", x.stick(0, 11), 7);
        Due.is("24: 50 / 4 = 12", x.stick(0, 54), 14);
        Due.is("24: 10 / 9 = 1", x.stick(0, 19), 0);
        Due.is("24: 10 / 9 = 1", x.stick(100, 19), 2);
        Due.is("24: 990 / 9 = 110", x.stick(100, 999), 0);
        force(x, "h");
        Due.is("24: by the hour: 10, 12, 15, 16, 8", x.stick(5, 54), 3 + 0);
        force(x, "55");
        Due.is("24: by a rise of 55: 112", x.stick(100, 999), 1);
        for (int bad : new int[] {10, 9, 0, -1, -11, 1000, 1001, 20, 990, Integer.MIN_VALUE, Integer.MAX_VALUE}) {
            Due.is("24: stick(0, " + bad + ")", x.stick(0, bad), BAD);
        }
        Due.is("24: no such place", x.stick(200, 11), BAD);
        Due.is("24: no such hour", x.stick(48, 11), BAD);
    }

    private static void notch() {
        AcrossOnFoot x = new AcrossOnFoot();
        int[][] bad = {{-1, 0}, {48, 0}, {0, -21}, {0, 61}};
        for (int[] b : bad) {
            Due.is("25: " + java.util.Arrays.toString(b), x.notch(b[0], b[1]), BAD);
        }
        Due.is("25: hour 0", x.notch(0, -20), 0);
        Due.is("25: hours rise", x.notch(0, 5), BAD);
        for (int n = 1; n < 20; n++) {
            Due.is("25: notch " + n, x.notch(n, 60), n);
        }
        Due.is("25: bad goes ahead of full", x.notch(19, 0), BAD);
        Due.is("25: bad goes ahead of full", x.notch(47, 61), BAD);
        Due.is("25: the twenty-first", x.notch(47, 0), FULL);
        Due.is("25: how many", x.count(3), 20);
    }

    private static void putAll(AcrossOnFoot x, int shelf, int... vs) {
        for (int i = 0; i < vs.length; i++) {
            x.put(shelf, i, vs[i]);
        }
    }

    private static void notches() {
        AcrossOnFoot x = new AcrossOnFoot();
        Due.is("26: nothing is there", x.notches(0, 0, 1), 0);
        x.row(0, 0, 7);
        putAll(x, 0, 3, 9, 5, -20, 47, 60, 47);
        Due.is("26: i below 0", x.notches(0, -1, 1), 0);
        Due.is("26: i below 0", x.notches(0, Integer.MIN_VALUE, 20), 0);
        Due.is("26: i behind the row", x.notches(0, 7, 1), 0);
        Due.is("26: the row ends within a two", x.notches(0, 6, 1), 0);
        Due.is("26: i far behind the row", x.notches(0, Integer.MAX_VALUE, 1), 0);
        Due.is("26: one", x.notches(0, 0, 1), 1);
        Due.is("26: all that are there", x.notches(0, 2, 20), 2);
        Due.is("26: they came", x.count(3), 3);
        Due.is("26: hours rise", x.notches(0, 0, 20), 0);
        Due.law(x, "0");
        Due.is("26: what came: 9, -20, 60", x.off(0), 89);
        for (int sort = 1; sort <= 4; sort++) {
            x.row(1, sort, 7);
            Due.is("26: a row of sort " + sort, x.notches(1, 0, 1), -12);
        }
        x.body(0);
        x.keep(1, 0);
        Due.is("26: a body", x.notches(1, 0, 1), -12);
        int[][] bad = {{6, 0, 1}, {-1, 0, 1}, {0, 0, 0}, {0, 0, 21}, {0, 0, -1}, {1, 0, 0}};
        for (int[] b : bad) {
            Due.is("26: " + java.util.Arrays.toString(b), x.notches(b[0], b[1], b[2]), BAD);
        }
        AcrossOnFoot y = new AcrossOnFoot();
        y.row(0, 0, 60);
        for (int n = 0; n < 30; n++) {
            y.put(0, 2 * n, n);
            y.put(0, 2 * n + 1, -n);
        }
        Due.is("26: from an odd place on", y.notches(0, 1, 20), 1);
        y.notch(1, 0);
        Due.is("26: up to the twenty-first rise", y.notches(0, 4, 19), 18);
        Due.is("26: they came", y.count(3), 20);
        Due.is("26: they are full", y.notches(0, 50, 1), 0);
        AcrossOnFoot w = new AcrossOnFoot();
        w.row(0, 0, 2);
        Due.is("26: a row of one two", w.notches(0, 0, 2), 1);
        Due.is("26: it came", w.notch(0, 0), BAD);
        AcrossOnFoot z = new AcrossOnFoot();
        z.row(0, 0, 4);
        putAll(z, 0, 5, 61, 6, 0);
        Due.is("26: a rise that may not be", z.notches(0, 0, 2), 0);
        Due.is("26: nothing came", z.count(3), 0);
        Due.is("26: an hour that may not be", z.notches(0, 1, 2), 0);
    }

    private static void offAndFit() {
        AcrossOnFoot x = new AcrossOnFoot();
        Due.is("27: no law", x.off(0), BAD);
        Due.is("28: no law, no notches", x.fit(), STATE);
        x.notch(3, 5);
        Due.is("28: no law", x.fit(), STATE);
        AcrossOnFoot y = new AcrossOnFoot();
        Due.law(y, "9");
        Due.is("27: no notches", y.off(0), STATE);
        Due.is("27: bad goes ahead of state", y.off(1), BAD);
        Due.is("27: bad", y.off(-1), BAD);
        Due.is("28: no notches", y.fit(), STATE);
        Due.law(y, "h+r");
        Due.law(y, "r+h");
        Due.law(y, "2");
        y.notch(3, 5);
        y.notch(7, -2);
        y.notch(9, 10);
        Due.is("27: 4 and 11 and 1", y.off(0), 16);
        Due.is("27: 2 and 9 and 1", y.off(1), 12);
        Due.is("27: 2 and 9 and 1", y.off(2), 12);
        Due.is("27: 3 and 4 and 8", y.off(3), 15);
        Due.is("28: the first of like ones", y.fit(), 1);
        y.sky(0, 9);
        Due.is("27: 7 and 18 and 8", y.off(1), 33);
        Due.is("28: the rain counts", y.fit(), 3);
    }

    private static void undoAndRedo() {
        AcrossOnFoot x = Due.at("3,4,5;6,7,8/9");
        addThree(x);
        Due.is("29: none", x.undo(), STATE);
        Due.is("30: none", x.redo(), STATE);
        x.mend(0, 1, 0, 1);
        x.mend(0, 1, 1, 2);
        x.mend(0, 1, 2, 3);
        x.set(2, 0, 4);
        x.set(2, 1, 5);
        Due.is("29: the same again is no change", x.set(2, 1, 5), 5);
        Due.is("40: changes", x.count(5), 5);
        Due.is("29: pack", x.undo(), 4);
        Due.is("29: it is as it was", x.of(2, 3), 0);
        Due.is("29: legs", x.undo(), 3);
        Due.is("29: it is as it was", x.of(2, 2), 0);
        Due.is("29: bed", x.undo(), 2);
        Due.is("29: it is as it was", x.cell(0, 1, 2, 0), 8);
        Due.is("29: pace", x.undo(), 1);
        Due.is("29: it is as it was", x.cell(0, 1, 1, 0), 7);
        Due.is("29: depth", x.undo(), 0);
        Due.is("29: it is as it was", x.cell(0, 1, 0, 0), 6);
        Due.is("29: none", x.undo(), STATE);
        for (int left = 4; left >= 0; left--) {
            Due.is("30: done again", x.redo(), left);
        }
        Due.is("30: none", x.redo(), STATE);
        Due.is("30: pack", x.of(2, 3), 5);
        Due.is("30: legs", x.of(2, 2), 4);
        Due.is("30: cell", x.cell(0, 1, 0, 0) + 10 * x.cell(0, 1, 1, 0) + 100 * x.cell(0, 1, 2, 0), 321);
        x.undo();
        x.undo();
        Due.is("30: the same again is no change", x.mend(0, 1, 0, 1), 1);
        Due.is("30: bad is no change", x.mend(0, 1, 0, 99), BAD);
        Due.is("30: one again", x.redo(), 1);
        x.mend(0, 0, 0, 9);
        Due.is("30: another came behind", x.redo(), STATE);
        Due.is("29: that one first", x.undo(), 4);
        Due.is("29: it is as it was", x.cell(0, 0, 0, 0), 3);
        Due.is("29: the legs stay", x.of(2, 2), 4);
        Due.is("29: then the legs", x.undo(), 3);
        Due.is("29: legs", x.of(2, 2), 0);
        Due.is("29: pack", x.of(2, 3), 0);
    }

    private static void fortyChanges() {
        AcrossOnFoot x = Due.at("0,0,0/0");
        // by turns depth becomes 1, pace 2, depth 3, pace 4, and so on
        for (int n = 1; n <= 45; n++) {
            x.mend(0, 0, 1 - n % 2, n % 31);
            Due.is("29: kept after " + n, x.count(5), Math.min(n, 40));
        }
        for (int left = 39; left >= 0; left--) {
            Due.is("29: left", x.undo(), left);
            Due.is("29: what was", x.cell(0, 0, 1 - left % 2, 0), (left + 4) % 31);
            Due.is("29: the other one", x.cell(0, 0, left % 2, 0), (left + 5) % 31);
        }
        Due.is("29: none", x.undo(), STATE);
        Due.is("29: the fifth is kept", x.cell(0, 0, 0, 0), 5);
        Due.is("29: the fourth is kept", x.cell(0, 0, 1, 0), 4);
        for (int left = 39; left >= 0; left--) {
            Due.is("30: left", x.redo(), left);
            Due.is("30: what becomes", x.cell(0, 0, left % 2, 0), (45 - left) % 31);
        }
        Due.is("30: none", x.redo(), STATE);
        Due.is("30: the other one", x.cell(0, 0, 1, 0), 44 % 31);
        x.undo();
        x.undo();
        x.mend(0, 0, 2, 9);
        Due.is("30: another came behind", x.redo(), STATE);
        Due.is("40: changes", x.count(5), 39);
    }

    private static void body() {
        AcrossOnFoot x = new AcrossOnFoot();
        Due.is("31: no such kind", x.body(8), BAD);
        Due.is("31: no such kind", x.body(-1), BAD);
        for (int n = 0; n < 50; n++) {
            Due.is("31: body " + n, x.body(n % 8), n);
        }
        Due.is("31: full", x.body(0), FULL);
        Due.is("31: bad goes ahead of full", x.body(8), BAD);
        Due.is("31: how many", x.count(6), 50);
    }

    private static void act() {
        AcrossOnFoot x = new AcrossOnFoot();
        for (int kind = 0; kind < 8; kind++) {
            x.body(kind);
        }
        // stands, steps, sweeps, sinks with 5, by the kind (its number is the same)
        int[][] due = {
            {5, 10, 5, 9}, {9, 18, 4, 18}, {7, -14, 7, -17}, {8, -18, 18, -24}, {12, 24, 1, 22}, {13, 26, -10, 38},
            {22, 44, 3, 37}, {23, 51, 2, 45},
        };
        for (int kind = 0; kind < 8; kind++) {
            for (int act = 0; act < 4; act++) {
                Due.is("32: act(" + kind + ", " + act + ", 5)", x.act(kind, act, 5), due[kind][act]);
            }
        }
        Due.is("32: x wraps", x.act(1, 0, Integer.MAX_VALUE), Integer.MIN_VALUE + 3);
        Due.is("32: x wraps", x.act(3, 1, Integer.MAX_VALUE), -2 * (Integer.MIN_VALUE + 3));
        for (int kind = 8; kind < 50; kind++) {
            x.body(0);
        }
        Due.is("32: the number counts", x.act(49, 0, 100), 149);
        Due.is("32: the number counts", x.act(49, 2, 1), 48);
        x.act(1, 0, 1);
        Due.is("32: a trace", x.count(7), 2);
        Due.is("32: no such body", x.act(50, 0, 1), 0);
        Due.is("32: no trace then", x.count(7), 0);
        Due.is("32: no trace then", x.trace(0), BAD);
        x.act(1, 0, 1);
        Due.is("32: no such act", x.act(0, 4, 1), 0);
        Due.is("32: no trace then", x.count(7), 0);
        x.act(1, 0, 1);
        Due.is("32: no such act", x.act(0, -1, 1), 0);
        Due.is("32: no such body", x.act(-1, 0, 1), 0);
        Due.is("32: no trace then", x.trace(0), BAD);
    }

    private static void trace() {
        AcrossOnFoot x = new AcrossOnFoot();
        for (int kind = 0; kind < 8; kind++) {
            x.body(kind);
        }
        int[][][] due = {
            {{1}, {10, 1}, {11}, {2, 10, 1, 11}},
            {{20, 1}, {10, 20, 1}, {11}, {2, 10, 20, 1, 11}},
            {{1}, {30, 10, 1}, {11}, {2, 30, 10, 1, 11}},
            {{1}, {41, 30, 10, 1}, {40, 11}, {2, 41, 30, 10, 1, 40, 11}},
            {{20, 1}, {10, 20, 1}, {11}, {50, 2, 10, 20, 1, 11}},
            {{20, 1}, {10, 20, 1}, {60, 11, 20, 1}, {61, 50, 2, 10, 20, 1, 60, 11, 20, 1}},
            {{70, 1}, {10, 70, 1}, {11}, {2, 10, 70, 1, 11}},
            {{81, 70, 1}, {80, 10, 81, 70, 1, 11}, {11}, {2, 80, 10, 81, 70, 1, 11, 11}},
        };
        for (int kind = 0; kind < 8; kind++) {
            for (int act = 0; act < 4; act++) {
                x.act(kind, act, 3);
                int[] row = due[kind][act];
                Due.is("40: bodies of act(" + kind + ", " + act + ")", x.count(7), row.length);
                for (int i = 0; i < row.length; i++) {
                    Due.is("33: act(" + kind + ", " + act + "), trace(" + i + ")", x.trace(i), row[i]);
                }
                Due.is("33: behind the last", x.trace(row.length), BAD);
                Due.is("33: below 0", x.trace(-1), BAD);
            }
        }
        Due.is("33: far behind", x.trace(Integer.MAX_VALUE), BAD);
    }

    private static void keep() {
        AcrossOnFoot x = new AcrossOnFoot();
        Due.is("34: no such body", x.keep(0, 0), BAD);
        x.body(3);
        x.body(5);
        Due.is("34: a body", x.keep(5, 1), 1);
        Due.is("34: it is there", x.taken(5, 0 + 5), 5);
        Due.is("34: another body", x.keep(5, 0), 1);
        Due.is("34: it is there", x.taken(5, 3), 3);
        Due.is("34: bad changes nothing", x.keep(5, 2), BAD);
        Due.is("34: it is there", x.taken(5, 3), 3);
        Due.is("34: nothing", x.keep(5, -1), 1);
        Due.is("34: nothing is there", x.taken(5, 3), -11);
        x.row(5, 0, 3);
        Due.is("34: instead of a row", x.keep(5, 0), 1);
        Due.is("34: a body is no row", x.put(5, 0, 1), -12);
        int[][] bad = {{6, 0}, {-1, 0}, {0, 2}, {0, -2}, {6, -1}};
        for (int[] b : bad) {
            Due.is("34: " + java.util.Arrays.toString(b), x.keep(b[0], b[1]), BAD);
        }
    }

    private static void row() {
        AcrossOnFoot x = new AcrossOnFoot();
        for (int sort = 0; sort < 5; sort++) {
            Due.is("35: sort " + sort, x.row(sort, sort, 60), 1);
            for (int i = 0; i < 60; i++) {
                Due.is("35: 0 at first", x.element(sort, i), 0);
            }
            Due.is("35: it ends", x.element(sort, 60), NONE);
        }
        Due.is("35: an empty one", x.row(5, 0, 0), 1);
        Due.is("35: nothing is in it", x.put(5, 0, 1), -13);
        x.put(0, 2, 9);
        Due.is("35: anew", x.row(0, 3, 3), 1);
        Due.is("35: 0 at first", x.element(0, 2), 0);
        Due.is("35: it ends", x.put(0, 3, 1), -13);
        Due.is("35: of longs now", x.put(0, 2, Long.MAX_VALUE), 1);
        Due.is("35: of longs now", x.element(0, 2), Long.MAX_VALUE);
        Due.is("35: below 0", x.row(0, 0, -1), -14);
        Due.is("35: below 0", x.row(0, 0, Integer.MIN_VALUE), -14);
        int[][] bad = {{6, 0, 1}, {-1, 0, 1}, {0, 5, 1}, {0, -1, 1}, {0, 0, 61}, {6, 0, -1}, {0, 5, -1}};
        for (int[] b : bad) {
            Due.is("35: " + java.util.Arrays.toString(b), x.row(b[0], b[1], b[2]), BAD);
        }
        Due.is("35: it is as it was", x.element(0, 2), Long.MAX_VALUE);
    }

    private static void putAndElement() {
        AcrossOnFoot x = new AcrossOnFoot();
        long[][] kept = {
            {0, 300, 44}, {0, 128, -128}, {0, -129, 127}, {1, 65536 + 5, 5}, {1, 32768, -32768}, {2, 1L << 32, 0},
            {2, (1L << 31), -(1L << 31)}, {3, Long.MIN_VALUE, Long.MIN_VALUE}, {3, 1L << 40, 1L << 40}, {4, 2, 1},
            {4, 0, 0}, {4, 1L << 40, 1}, {4, -1, 1}, {0, -1, -1}, {1, -1, -1}, {2, -1, -1},
        };
        for (long[] row : kept) {
            x.row(0, (int) row[0], 3);
            Due.is("36: put " + row[1], x.put(0, 1, row[1]), 1);
            Due.is("37: of sort " + row[0] + ", " + row[1], x.element(0, 1), row[2]);
            Due.is("37: the one ahead", x.element(0, 0), 0);
            Due.is("37: the one behind", x.element(0, 2), 0);
        }
        Due.is("36: the last", x.put(0, 2, 5), 1);
        Due.is("37: the last", x.element(0, 2), 5);
        x.body(0);
        x.keep(1, 0);
        int[][] bad = {
            {6, 0, BAD}, {-1, 0, BAD}, {2, 0, -11}, {1, 0, -12}, {0, 3, -13}, {0, -1, -13}, {1, 99, -12}, {2, 99, -11},
            {0, Integer.MAX_VALUE, -13}, {0, Integer.MIN_VALUE, -13},
        };
        for (int[] b : bad) {
            Due.is("36: put(" + b[0] + ", " + b[1] + ", 1)", x.put(b[0], b[1], 1), b[2]);
            Due.is("37: element(" + b[0] + ", " + b[1] + ")", x.element(b[0], b[1]), NONE);
        }
    }

    private static void shift() {
        AcrossOnFoot x = new AcrossOnFoot();
        x.row(0, 0, 5);
        putAll(x, 0, 1, 2, 3, 4, 5);
        Due.is("38: up", x.shift(0, 0, 0, 1, 4), 4);
        Due.is("38: as they all were", asDigits(x, 0, 5), 11234);
        Due.is("38: down", x.shift(0, 2, 0, 0, 3), 3);
        Due.is("38: as they all were", asDigits(x, 0, 5), 23434);
        x.row(1, 0, 3);
        Due.is("38: to another", x.shift(0, 1, 1, 0, 3), 3);
        Due.is("38: it came", asDigits(x, 1, 3), 343);
        Due.is("38: the one is as it was", asDigits(x, 0, 5), 23434);
        Due.is("38: none", x.shift(0, 5, 1, 3, 0), 0);
        x.row(2, 1, 3);
        x.body(0);
        x.keep(3, 0);
        int[][] bad = {
            {6, 0, 0, 0, 1, BAD}, {0, 0, 6, 0, 1, BAD}, {-1, 0, 0, 0, 1, BAD}, {0, 0, -1, 0, 1, BAD}, {4, 0, 6, 0, 1, BAD},
            {4, 0, 0, 0, 1, -11}, {0, 0, 4, 0, 1, -11}, {4, 0, 3, 0, 1, -11}, {3, 0, 4, 0, 1, -11},
            {0, 0, 2, 0, 1, -12}, {3, 0, 0, 0, 1, -12}, {0, 0, 3, 0, 1, -12}, {3, 0, 3, 0, 1, -12}, {0, 9, 2, 9, -1, -12},
            {0, 0, 1, 0, -1, -13}, {0, -1, 1, 0, 1, -13}, {0, 0, 1, -1, 1, -13}, {0, 3, 1, 0, 3, -13}, {0, 0, 1, 1, 3, -13},
            {0, 0, 1, 0, 4, -13}, {0, 6, 1, 0, 0, -13}, {0, 0, 1, 4, 0, -13}, {0, 1, 1, 1, Integer.MAX_VALUE, -13},
            {0, Integer.MAX_VALUE, 1, 0, 1, -13}, {0, 0, 1, Integer.MAX_VALUE, 1, -13}, {0, 0, 1, 0, Integer.MIN_VALUE, -13},
        };
        for (int[] b : bad) {
            Due.is("38: " + java.util.Arrays.toString(b), x.shift(b[0], b[1], b[2], b[3], b[4]), b[5]);
        }
        Due.is("38: nothing changed", asDigits(x, 0, 5), 23434);
        Due.is("38: nothing changed", asDigits(x, 1, 3), 343);
    }

    private static long asDigits(AcrossOnFoot x, int shelf, int n) {
        long digits = 0;
        for (int i = 0; i < n; i++) {
            digits = 10 * digits + x.element(shelf, i);
        }
        return digits;
    }

    private static void taken() {
        AcrossOnFoot x = new AcrossOnFoot();
        int[] above = {-1, 0, 0, 2, 1, 4, 0, 6};
        for (int kind = 0; kind < 8; kind++) {
            x.body(kind);
            x.keep(0, kind);
            for (int k = 0; k < 8; k++) {
                boolean under = false;
                for (int up = kind; up >= 0; up = above[up]) {
                    under |= up == k;
                }
                Due.is("39: kind " + kind + " taken for " + k, x.taken(0, k), under ? kind : -12);
            }
        }
        x.row(1, 0, 1);
        int[][] bad = {{1, 0, -12}, {2, 0, -11}, {6, 0, BAD}, {-1, 0, BAD}, {0, 8, BAD}, {0, -1, BAD}, {2, 8, BAD}};
        for (int[] b : bad) {
            Due.is("39: taken(" + b[0] + ", " + b[1] + ")", x.taken(b[0], b[1]), b[2]);
        }
    }

    private static void count() {
        AcrossOnFoot x = Due.at("0,0,0/0", "0,0,0/0");
        Due.law(x, "1");
        Due.law(x, "1");
        Due.law(x, "1");
        addThree(x);
        x.person(7018, 0);
        for (int hour = 0; hour < 5; hour++) {
            x.notch(hour, 0);
        }
        Due.feed(x, "abcdef");
        for (int n = 1; n <= 7; n++) {
            x.set(0, 1, n);
        }
        for (int n = 0; n < 9; n++) {
            x.body(5);
        }
        x.act(8, 3, 1);
        int[] due = {2, 3, 4, 5, 6, 7, 9, 10};
        for (int what = 0; what < due.length; what++) {
            Due.is("40: count(" + what + ")", x.count(what), due[what]);
        }
        x.undo();
        Due.is("40: count(5) after undo", x.count(5), 6);
        for (int bad : new int[] {8, -1, Integer.MAX_VALUE, Integer.MIN_VALUE}) {
            Due.is("40: count(" + bad + ")", x.count(bad), BAD);
        }
    }
}
