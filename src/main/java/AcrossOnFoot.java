import java.util.Arrays;

/** Who comes over a river on foot, where, when and how; every promise is told in ../shared/DOC.md. */
public final class AcrossOnFoot {
    public static final int BAD = -1, NOT = -2, FULL = -3, STATE = -5, VOID = -2000000000;

    private static final int NOTHING_THERE = -11, OTHER_KIND = -12, NO_SUCH_INDEX = -13, SIZE_BELOW_0 = -14;
    private static final int HOURS = 48, HOURS_OF_A_DAY = 24, FIRST_LIGHT = 5, LAST_LIGHT = 19;
    private static final int LEAST_RISE = -20, GREATEST_RISE = 60;
    private static final int ALONE = 0, ROWED = 1, WEDGED = 2, LINED = 3, FORMS = 4;
    private static final int FAULTS = -100, NO_LINE = -100, NO_LAW = -1, BAD_FORCE = -2;

    private final Tape tape;
    private final River river;
    private final Laws laws;
    private final People people;
    private final Party party;
    private final Crossing crossing;
    private final Changes changes;
    private final Notches marks;
    private final Bodies bodies;
    private final Shelves shelves;

    public AcrossOnFoot() {
        tape = new Tape();
        river = new River(tape);
        laws = new Laws(tape);
        people = new People();
        party = new Party(people);
        crossing = new Crossing(river, laws, party);
        changes = new Changes(river, people);
        marks = new Notches();
        bodies = new Bodies();
        shelves = new Shelves();
    }

    // ---- the river

    public int feed(int n, int v) {
        if (!isWithin(n, 1, 4)) {
            return BAD;
        }
        return tape.add(n, v) ? tape.length : FULL;
    }

    public int place() {
        if (river.isFull()) {
            return FULL;
        }
        int answer = river.read() ? river.made - 1 : FAULTS - tape.at;
        tape.clear();
        return answer;
    }

    public int cell(int place, int i, int what, int hour) {
        if (!river.has(place)) {
            return BAD;
        }
        if (i == -1) {
            return what == 0 ? river.cellsOf(place) : what == 1 ? river.belowOf(place) : BAD;
        }
        if (!river.hasCell(place, i)) {
            return BAD;
        }
        if (isWithin(what, River.DEPTH, River.BED)) {
            return river.told(place, i, what);
        }
        if (!isHour(hour)) {
            return BAD;
        }
        int rise = laws.riseInForce(hour);
        return what == 3 ? river.depthAt(place, i, rise) : what == 4 ? river.paceAt(place, i, rise) : BAD;
    }

    public int mend(int place, int i, int what, int v) {
        if (!river.hasCell(place, i) || !isWithin(what, River.DEPTH, River.BED)) {
            return BAD;
        }
        return isWithin(v, 0, River.mostOf(what)) ? changes.make(River.slot(place, i) + what, v) : BAD;
    }

    public int law() {
        if (laws.isFull()) {
            return FULL;
        }
        int answer = laws.read() ? laws.made - 1 : FAULTS - tape.at;
        tape.clear();
        return answer;
    }

    public int force(int law) {
        if (law != NO_LAW && !laws.has(law)) {
            return BAD_FORCE;
        }
        int was = laws.inForce;
        laws.inForce = law;
        return was;
    }

    public int sky(int what, int v) {
        if (!isWithin(what, 0, 1) || !isWithin(v, 0, 99)) {
            return BAD;
        }
        int was = what == 0 ? laws.rain : laws.ice;
        if (what == 0) {
            laws.rain = v;
        } else {
            laws.ice = v;
        }
        return was;
    }

    public int rise(int law, int hour) {
        return laws.has(law) && isHour(hour) ? laws.riseBy(law, hour) : VOID;
    }

    // ---- people, groups (ph: 100 times the PLACE and the HOUR; gf: 10 times the GROUP's digits and the FORM)

    public int person(int wh, int lp) {
        if (!People.mayBe(wh, lp)) {
            return BAD;
        }
        return people.isFull() ? FULL : people.add(wh, lp);
    }

    public int set(int person, int what, int v) {
        if (!people.has(person) || !isWithin(what, 0, 1)) {
            return BAD;
        }
        int trait = what == 0 ? People.LEGS : People.PACK;
        if (!isWithin(v, 0, what == 0 ? People.MOST_LEGS : People.MOST_PACK)) {
            return BAD;
        }
        return changes.make(River.VALUES + People.slot(person) + trait, v);
    }

    public int of(int person, int what) {
        return people.has(person) && isWithin(what, 0, People.PACK) ? people.trait(person, what) : BAD;
    }

    public int margin(int ph, int gf, int ki, int what) {
        if (!isPlaceAndHour(ph) || !takesGroup(gf) || !isRankAndCell(ki, ph / 100) || !isWithin(what, 0, 2)) {
            return VOID;
        }
        crossing.enter(ph / 100, ki % 100, laws.riseInForce(ph % 100), 0);
        int rank = ki / 100;
        return what == 0 ? party.marginOf(rank) : what == 1 ? party.holdOf(rank) : party.pushOn(rank);
    }

    public int over(int ph, int gf, int what) {
        if (!isPlaceAndHour(ph) || !takesGroup(gf) || !isWithin(what, 0, 2)) {
            return VOID;
        }
        int place = ph / 100;
        int rise = laws.riseInForce(ph % 100);
        if (what == 1) {
            return crossing.leastMargin(place, rise, VOID);
        }
        int first = crossing.firstFall(place, rise);
        return what == 2 ? first : asNumber(first == NOT);
    }

    public int order(int ph, int gf, int what) {
        if (!isPlaceAndHour(ph) || !takesGroup(gf) || !isWithin(what, 0, 1)) {
            return VOID;
        }
        crossing.seekOrder(ph / 100, laws.riseInForce(ph % 100));
        return what == 0 ? crossing.found : crossing.worth;
    }

    public int best(int group, int fromTo, int what) {
        if (!party.take(group, ALONE) || fromTo < 0 || !isWithin(what, 0, 1)) {
            return VOID;
        }
        int from = fromTo / 100;
        int to = fromTo % 100;
        if (!isHour(from) || !isHour(to) || to < from) {
            return VOID;
        }
        if (!crossing.seekBest(from, to)) {
            return NOT;
        }
        return what == 0 ? crossing.found : crossing.worth;
    }

    public int gusts(int ph, int gf, int seed, int ng, int what) {
        if (!isPlaceAndHour(ph) || !takesGroup(gf) || ng < 0 || !isWithin(what, 0, 1)) {
            return BAD;
        }
        int times = ng / 100;
        int most = ng % 100;
        if (!isWithin(times, 1, 50) || !isWithin(most, 1, 20)) {
            return BAD;
        }
        int place = ph / 100;
        int overs = crossing.timesOver(place, laws.riseInForce(ph % 100), seed, times, most);
        return what == 0 ? overs : river.belowOf(place) * (times - overs);
    }

    public int await(int ph, int gf) {
        return isPlaceAndHour(ph) && takesGroup(gf) ? crossing.firstHourOver(ph / 100, ph % 100) : BAD;
    }

    public int mustNot(int ph) {
        if (!isPlaceAndHour(ph)) {
            return BAD;
        }
        return crossing.fallersAsLast(ph / 100, laws.riseInForce(ph % 100));
    }

    public int midst(int ph, int gf, int t, int what) {
        if (!isPlaceAndHour(ph) || !takesGroup(gf) || !isWithin(t, 1, 60) || !isWithin(what, 0, 1)) {
            return BAD;
        }
        int place = ph / 100;
        int stop = crossing.stoppedIn(place, ph % 100, t);
        if (what == 0) {
            return stop;
        }
        return stop == river.cellsOf(place) ? NOT : asNumber(crossing.comesBack(place, ph % 100, t, stop));
    }

    public int line(int place, int gf) {
        return river.has(place) && takesGroup(gf) ? crossing.highestRise(place, NO_LINE) : VOID;
    }

    public int wall(int group, int what) {
        if (!party.take(group, ALONE) || !isWithin(what, 0, 1)) {
            return VOID;
        }
        crossing.seekWall();
        return what == 0 ? crossing.found : crossing.worth;
    }

    public int roped(int ph, int gf, int ki) {
        if (!isPlaceAndHour(ph) || !takesGroup(gf) || !isRankAndCell(ki, ph / 100)) {
            return BAD;
        }
        crossing.enter(ph / 100, ki % 100, laws.riseInForce(ph % 100), 0);
        return party.pulledInBy(ki / 100);
    }

    // ---- signs

    public int stick(int ph, int yb) {
        if (!isPlaceAndHour(ph) || !isWithin(yb, 11, 999) || yb % 10 == 0) {
            return BAD;
        }
        int pace = quotient(10 * (yb / 10), yb % 10);
        return river.cellsNearPace(ph / 100, laws.riseInForce(ph % 100), pace);
    }

    public int notch(int hour, int rise) {
        if (!marks.mayCome(hour, rise)) {
            return BAD;
        }
        return marks.isFull() ? FULL : marks.add(hour, rise);
    }

    public int notches(int shelf, int i, int n) {
        if (!Shelves.has(shelf) || !isWithin(n, 1, Notches.MOST)) {
            return BAD;
        }
        if (shelves.sortOn(shelf) == Shelves.NOTHING) {
            return 0;
        }
        return shelves.sortOn(shelf) == Shelves.BYTES ? addNotches(shelf, i, n) : OTHER_KIND;
    }

    public int off(int law) {
        if (!laws.has(law)) {
            return BAD;
        }
        return marks.made == 0 ? STATE : marks.differenceFrom(laws, law);
    }

    public int fit() {
        return marks.made == 0 || laws.made == 0 ? STATE : marks.nearestOf(laws);
    }

    public int undo() {
        return changes.takeBack() ? changes.done : STATE;
    }

    public int redo() {
        return changes.makeAgain() ? changes.undone : STATE;
    }

    // ---- acts, shelves

    public int body(int kind) {
        if (!Bodies.isKind(kind)) {
            return BAD;
        }
        return bodies.isFull() ? FULL : bodies.add(kind);
    }

    public int act(int body, int act, int x) {
        return bodies.start(body, act, x);
    }

    public int trace(int i) {
        return bodies.hasTrace(i) ? bodies.traceAt(i) : BAD;
    }

    public int keep(int shelf, int body) {
        if (!Shelves.has(shelf) || body != -1 && !bodies.has(body)) {
            return BAD;
        }
        shelves.hold(shelf, body);
        return 1;
    }

    public int row(int shelf, int sort, int n) {
        if (!Shelves.has(shelf) || !Shelves.isSort(sort) || n > Shelves.LONGEST) {
            return BAD;
        }
        if (n < 0) {
            return SIZE_BELOW_0;
        }
        shelves.holdRow(shelf, sort, n);
        return 1;
    }

    public int put(int shelf, int i, long v) {
        int refusal = shelves.refusalOf(shelf, i);
        if (refusal == 0) {
            shelves.putAt(shelf, i, v);
            return 1;
        }
        return refusal;
    }

    public long element(int shelf, int i) {
        return shelves.refusalOf(shelf, i) == 0 ? shelves.elementAt(shelf, i) : Long.MIN_VALUE;
    }

    public int shift(int shelf, int i, int other, int j, int n) {
        if (!Shelves.has(shelf) || !Shelves.has(other)) {
            return BAD;
        }
        int sort = shelves.sortOn(shelf);
        if (sort == Shelves.NOTHING || shelves.sortOn(other) == Shelves.NOTHING) {
            return NOTHING_THERE;
        }
        if (!Shelves.isSort(sort) || sort != shelves.sortOn(other)) {
            return OTHER_KIND;
        }
        if (!shelves.hasStretch(shelf, i, n) || !shelves.hasStretch(other, j, n)) {
            return NO_SUCH_INDEX;
        }
        shelves.copy(shelf, i, other, j, n);
        return n;
    }

    public int taken(int shelf, int k) {
        if (!Shelves.has(shelf) || !Bodies.isKind(k)) {
            return BAD;
        }
        if (shelves.sortOn(shelf) == Shelves.NOTHING) {
            return NOTHING_THERE;
        }
        if (shelves.sortOn(shelf) != Shelves.BODY) {
            return OTHER_KIND;
        }
        int kind = bodies.kindOf(shelves.bodyOn(shelf));
        return Bodies.isUnder(kind, k) ? kind : OTHER_KIND;
    }

    public int count(int what) {
        switch (what) {
            case 0: return river.made;
            case 1: return laws.made;
            case 2: return people.made;
            case 3: return marks.made;
            case 4: return tape.length;
            case 5: return changes.done;
            case 6: return bodies.made;
            case 7: return bodies.ran;
            default: return BAD;
        }
    }

    // ---- what the calls share

    private int addNotches(int shelf, int from, int n) {
        int came = 0;
        int i = from;
        while (came < n && !marks.isFull() && shelves.hasStretch(shelf, i, 2)) {
            int hour = (int) shelves.elementAt(shelf, i);
            int rise = (int) shelves.elementAt(shelf, i + 1);
            if (!marks.mayCome(hour, rise)) {
                return came;
            }
            marks.add(hour, rise);
            came++;
            i += 2;
        }
        return came;
    }

    private boolean isPlaceAndHour(int ph) {
        return ph >= 0 && river.has(ph / 100) && isHour(ph % 100);
    }

    private boolean takesGroup(int gf) {
        return gf >= 0 && gf % 10 < FORMS && party.take(gf / 10, gf % 10);
    }

    /** Asks for a RANK of the GROUP that was taken last. */
    private boolean isRankAndCell(int ki, int place) {
        return ki >= 0 && ki / 100 < party.size && river.hasCell(place, ki % 100);
    }

    private static boolean isWithin(int v, int least, int most) {
        return least <= v && v <= most;
    }

    private static boolean isHour(int hour) {
        return isWithin(hour, 0, HOURS - 1);
    }

    private static boolean isDark(int hour) {
        return !isWithin(hour % HOURS_OF_A_DAY, FIRST_LIGHT, LAST_LIGHT);
    }

    private static boolean hasBit(int bits, int k) {
        return (bits >> k & 1) == 1;
    }

    private static int asNumber(boolean holds) {
        return holds ? 1 : 0;
    }

    private static int quotient(int a, int b) {
        return b == 0 ? 0 : a / b;
    }

    private static int remainder(int a, int b) {
        return b == 0 ? 0 : a % b;
    }

    /** THE TAPE, and a cursor for those who read it: where a text is refused, it stays at the FAULT. */
    private static final class Tape {
        static final int MOST = 120;

        private final int[] bytes = new int[MOST];
        int length;
        int at;

        boolean add(int n, int v) {
            if (n > MOST - length) {
                return false;
            }
            for (int k = 0; k < n; k++) {
                bytes[length] = v >>> 8 * k & 255;
                length++;
            }
            return true;
        }

        /** Empties it, and the next reader begins at its first byte. */
        void clear() {
            length = 0;
            at = 0;
        }

        boolean isAtEnd() {
            return at >= length;
        }

        /** The byte under the cursor; -1 at the end. */
        int seen() {
            return at >= 0 && at < length ? bytes[at] : -1;
        }

        boolean pass(int sign) {
            if (seen() != sign) {
                return false;
            }
            at++;
            return true;
        }

        boolean seesDigit() {
            int sign = seen();
            return sign >= '0' && sign <= '9';
        }

        /** Passes a digit: its value; -1, if there is none. */
        int digit() {
            int sign = seen();
            if (sign < '0' || sign > '9') {
                return -1;
            }
            at++;
            return sign - '0';
        }

        void back(int n) {
            at -= n;
        }
    }

    /** PLACES, as they came and as they were mended. */
    private static final class River {
        static final int MOST = 6, CELLS = 12, DEPTH = 0, PACE = 1, BED = 2, SORTS = 3;
        static final int VALUES = MOST * CELLS * SORTS;
        private static final int MOST_MEASURE = 30, MOST_BED = 9, STILL = 20;

        private final Tape tape;
        private final int[] values = new int[VALUES];
        private final int[] cells = new int[MOST];
        private final int[] below = new int[MOST];
        int made;

        River(Tape tape) {
            this.tape = tape;
        }

        static int slot(int place, int i) {
            return (place * CELLS + i) * SORTS;
        }

        static int mostOf(int what) {
            return what == BED ? MOST_BED : MOST_MEASURE;
        }

        boolean isFull() {
            return made >= MOST;
        }

        boolean has(int place) {
            return place >= 0 && place < made;
        }

        boolean hasCell(int place, int i) {
            return has(place) && i >= 0 && i < cells[place];
        }

        int cellsOf(int place) {
            return has(place) ? cells[place] : 0;
        }

        int belowOf(int place) {
            return has(place) ? below[place] : 0;
        }

        int told(int place, int i, int what) {
            return valueAt(slot(place, i) + what);
        }

        int valueAt(int at) {
            return at >= 0 && at < VALUES ? values[at] : 0;
        }

        void putValue(int at, int v) {
            if (at >= 0 && at < VALUES) {
                values[at] = v;
            }
        }

        int depthAt(int place, int i, int rise) {
            return Math.max(0, told(place, i, DEPTH) + rise);
        }

        int paceAt(int place, int i, int rise) {
            return told(place, i, PACE) * (STILL + rise) / STILL;
        }

        int cellsNearPace(int place, int rise, int pace) {
            int bits = 0;
            for (int i = 0; i < cellsOf(place); i++) {
                if (Math.abs(paceAt(place, i, rise) - pace) <= 2) {
                    bits |= 1 << i;
                }
            }
            return bits;
        }

        /** Makes THE TAPE the next PLACE; false, and the cursor at the FAULT, if it is none. */
        boolean read() {
            if (isFull()) {
                return false;
            }
            for (int i = 0; i < CELLS; i++) {
                if (!readCell(slot(made, i))) {
                    return false;
                }
                if (tape.pass('/')) {
                    return readBelow(i + 1);
                }
                if (i + 1 == CELLS || !tape.pass(';')) {
                    return false;
                }
            }
            return false;
        }

        private boolean readCell(int at) {
            return readMeasure(at + DEPTH) && tape.pass(',')
                && readMeasure(at + PACE) && tape.pass(',')
                && readBed(at + BED);
        }

        private boolean readMeasure(int at) {
            int first = tape.digit();
            if (first < 0) {
                return false;
            }
            int second = tape.digit();
            int measure = second < 0 ? first : 10 * first + second;
            if (measure > MOST_MEASURE) {
                // only two digits tell so much, and the FAULT is the first of them
                tape.back(2);
                return false;
            }
            putValue(at, measure);
            return true;
        }

        private boolean readBed(int at) {
            int bed = tape.digit();
            putValue(at, bed);
            return bed >= 0;
        }

        private boolean readBelow(int cellsRead) {
            int cost = tape.digit();
            if (cost < 0 || !tape.isAtEnd()) {
                return false;
            }
            cells[made] = cellsRead;
            below[made] = cost;
            made++;
            return true;
        }
    }

    /**
     * Reads the text of a LAW into codes, in the order in which they are worked out:
     * a number stands for itself, a NAME or a sign for itself made negative.
     */
    private static final class LawReader {
        /** Each byte makes one code at most, and the last LINE's end makes one more. */
        static final int MOST_CODES = Tape.MOST + 1;
        static final char NEGATE = '~', LINE_ENDS = ';', IF = '?';
        private static final int MOST_OPEN = 6, MOST_DIGITS = 4;
        private static final int WIDEST = 0, COMPARED = 2, TIGHTEST = 4, NO_LEVEL = -1;

        private final Tape tape;
        private final int[] codes = new int[MOST_CODES];
        private int made;

        LawReader(Tape tape) {
            this.tape = tape;
        }

        /** How many codes the text makes; -1, and the cursor at the FAULT, if it is none. */
        int read() {
            made = 0;
            for (int n = 0; n <= Tape.MOST; n++) {
                if (!readLine()) {
                    return -1;
                }
                if (!tape.pass(LINE_ENDS)) {
                    return tape.isAtEnd() ? made : -1;
                }
            }
            return -1;
        }

        void copyTo(int[] row) {
            System.arraycopy(codes, 0, row, 0, Math.min(made, row.length));
        }

        private boolean readLine() {
            if (!readChain(WIDEST, 0)) {
                return false;
            }
            if (tape.pass(IF)) {
                make(-IF);
                if (!readChain(WIDEST, 0)) {
                    return false;
                }
            }
            make(-LINE_ENDS);
            return true;
        }

        /** Reads E, A, B, S or P (levels 0 to 4): parts of the next level with this level's signs between. */
        private boolean readChain(int level, int open) {
            if (!readPart(level + 1, open)) {
                return false;
            }
            int most = level == COMPARED ? 1 : Tape.MOST;
            for (int n = 0; n < most; n++) {
                int sign = tape.seen();
                if (levelOf(sign) != level) {
                    return true;
                }
                tape.pass(sign);
                if (!readPart(level + 1, open)) {
                    return false;
                }
                make(-sign);
            }
            return true;
        }

        private boolean readPart(int level, int open) {
            return level > TIGHTEST ? readOperand(open) : readChain(level, open);
        }

        private static int levelOf(int sign) {
            switch (sign) {
                case '|': return WIDEST;
                case '&': return 1;
                case '<': case '=': case '>': return COMPARED;
                case '+': case '-': return 3;
                case '*': case '/': case '%': return TIGHTEST;
                default: return NO_LEVEL;
            }
        }

        private boolean readOperand(int open) {
            if (tape.seesDigit()) {
                readNumber();
                return true;
            }
            int sign = tape.seen();
            if (sign == 'h' || sign == 'c' || sign == 'r' || sign == 'i') {
                tape.pass(sign);
                make(-sign);
                return true;
            }
            if (open >= MOST_OPEN) {
                return false;
            }
            if (tape.pass('(')) {
                return readChain(WIDEST, open + 1) && tape.pass(')');
            }
            // a ! whose operand is refused leaves the cursor at the FAULT: no - may be tried there
            if (tape.pass('!')) {
                return readSigned('!', open);
            }
            return tape.pass('-') && readSigned(NEGATE, open);
        }

        private boolean readSigned(int sign, int open) {
            if (!readOperand(open + 1)) {
                return false;
            }
            make(-sign);
            return true;
        }

        private void readNumber() {
            int number = 0;
            for (int n = 0; n < MOST_DIGITS && tape.seesDigit(); n++) {
                number = 10 * number + tape.digit();
            }
            make(number);
        }

        private void make(int code) {
            if (made < codes.length) {
                codes[made] = code;
                made++;
            }
        }
    }

    /** LAWS, and what they look at: RAIN, ICE. */
    private static final class Laws {
        private static final int MOST = 4;

        private final LawReader reader;
        private final int[][] codes = new int[MOST][LawReader.MOST_CODES];
        private final int[] lengths = new int[MOST];
        private final int[] stack = new int[LawReader.MOST_CODES];
        private int top;
        int made, rain, ice;
        int inForce = NO_LAW;

        Laws(Tape tape) {
            reader = new LawReader(tape);
        }

        boolean isFull() {
            return made >= MOST;
        }

        boolean has(int law) {
            return law >= 0 && law < made;
        }

        /** Makes THE TAPE the next LAW; false, and the cursor at the FAULT, if it is none. */
        boolean read() {
            int length = reader.read();
            if (length < 0 || isFull()) {
                return false;
            }
            reader.copyTo(codes[made]);
            lengths[made] = length;
            made++;
            return true;
        }

        int riseInForce(int hour) {
            return has(inForce) ? riseBy(inForce, hour) : 0;
        }

        int riseBy(int law, int hour) {
            return has(law) ? Math.max(LEAST_RISE, Math.min(GREATEST_RISE, worth(law, hour))) : 0;
        }

        /** What the first LINE that counts is worth; 0, if none counts. */
        private int worth(int law, int hour) {
            top = 0;
            boolean counts = true;
            for (int k = 0; k < lengths[law]; k++) {
                int code = codes[law][k];
                if (code == -LawReader.IF) {
                    counts = pop() != 0;
                } else if (code == -LawReader.LINE_ENDS) {
                    int worth = pop();
                    if (counts) {
                        return worth;
                    }
                    counts = true;
                } else {
                    work(code, hour);
                }
            }
            return 0;
        }

        private void work(int code, int hour) {
            if (code >= 0) {
                push(code);
                return;
            }
            switch (-code) {
                case 'h': push(hour); return;
                case 'c': push(hour % HOURS_OF_A_DAY); return;
                case 'r': push(rain); return;
                case 'i': push(ice); return;
                case '!': push(asNumber(pop() == 0)); return;
                case LawReader.NEGATE: push(-pop()); return;
                default:
                    int right = pop();
                    int left = pop();
                    push(joined(-code, left, right));
            }
        }

        private static int joined(int sign, int left, int right) {
            switch (sign) {
                case '|': return asNumber(left != 0 || right != 0);
                case '&': return asNumber(left != 0 && right != 0);
                case '<': return asNumber(left < right);
                case '=': return asNumber(left == right);
                case '>': return asNumber(left > right);
                case '+': return left + right;
                case '-': return left - right;
                case '*': return left * right;
                case '/': return quotient(left, right);
                case '%': return remainder(left, right);
                default: return 0;
            }
        }

        private void push(int v) {
            if (top < stack.length) {
                stack[top] = v;
                top++;
            }
        }

        private int pop() {
            if (top <= 0) {
                return 0;
            }
            top--;
            return stack[top];
        }
    }

    /** PEOPLE and their traits. */
    private static final class People {
        static final int MOST = 8, WEIGHT = 0, HEIGHT = 1, LEGS = 2, PACK = 3, TRAITS = 4;
        static final int MOST_LEGS = 9, MOST_PACK = 40;

        private final int[] traits = new int[MOST * TRAITS];
        int made;

        static int slot(int person) {
            return person * TRAITS;
        }

        static boolean mayBe(int wh, int lp) {
            return wh >= 0 && lp >= 0
                && isWithin(wh / 100, 30, 120) && isWithin(wh % 100, 10, 22)
                && lp / 100 <= MOST_LEGS && lp % 100 <= MOST_PACK;
        }

        boolean isFull() {
            return made >= MOST;
        }

        boolean has(int person) {
            return person >= 0 && person < made;
        }

        int add(int wh, int lp) {
            int at = slot(made);
            putValue(at + WEIGHT, wh / 100);
            putValue(at + HEIGHT, wh % 100);
            putValue(at + LEGS, lp / 100);
            putValue(at + PACK, lp % 100);
            made++;
            return made - 1;
        }

        int trait(int person, int what) {
            int at = person * TRAITS + what;
            return at >= 0 && at < traits.length ? traits[at] : 0;
        }

        int valueAt(int at) {
            return at >= 0 && at < traits.length ? traits[at] : 0;
        }

        void putValue(int at, int v) {
            if (at >= 0 && at < traits.length) {
                traits[at] = v;
            }
        }
    }

    /** A call's GROUP in its FORM, and how each RANK fares in the CELL that it entered last. */
    private static final class Party {
        private static final int MOST = 5, GREATEST_GROUP = 99999, TOO_DEEP = -9999;
        private static final int FULL_LEE = 100, ROW_LEE = 15, LAST_LEE = 40;
        /** Not a FORM of the document: all PEOPLE, each as one of a ROWED GROUP with the last LEE. */
        private static final int EACH_LAST = 4;
        private static final int[] WEDGE_LEE = {100, 60, 60, 40, 40};

        private final People people;
        private final int[] ranks = new int[People.MOST];
        private final int[] holds = new int[People.MOST];
        private final int[] pushes = new int[People.MOST];
        private final int[] margins = new int[People.MOST];
        int size;
        int form;

        Party(People people) {
            this.people = people;
        }

        /** Makes the digits the GROUP; false, if they are none (then there is no GROUP). */
        boolean take(int group, int groupForm) {
            size = 0;
            form = groupForm;
            if (!isWithin(group, 1, GREATEST_GROUP)) {
                return false;
            }
            int there = 0;
            int n = 0;
            for (int rest = group; n < MOST && rest > 0; rest /= 10) {
                int person = rest % 10 - 1;
                if (!people.has(person) || hasBit(there, person)) {
                    return false;
                }
                there |= 1 << person;
                ranks[n] = person;
                n++;
            }
            size = n;
            turnAround(0, n - 1);
            return true;
        }

        void takeEachAsLast() {
            size = people.made;
            form = EACH_LAST;
            for (int person = 0; person < size; person++) {
                ranks[person] = person;
            }
        }

        void enter(int depth, int pace, int bed) {
            int sum = 0;
            for (int rank = 0; rank < size; rank++) {
                holds[rank] = holdAlike(ranks[rank], depth, bed);
                sum += holds[rank];
            }
            int mean = quotient(sum, size);
            for (int rank = 0; rank < size; rank++) {
                int height = people.trait(ranks[rank], People.HEIGHT);
                holds[rank] = holdInForm(holds[rank], mean);
                pushes[rank] = Math.min(depth, height) * pace * pace * leeOf(rank) / 1000;
                margins[rank] = depth < height ? holds[rank] - pushes[rank] : TOO_DEEP;
            }
        }

        int holdOf(int rank) {
            return isRank(rank) ? holds[rank] : 0;
        }

        int pushOn(int rank) {
            return isRank(rank) ? pushes[rank] : 0;
        }

        int marginOf(int rank) {
            return isRank(rank) ? margins[rank] : 0;
        }

        int leastMargin() {
            int least = Integer.MAX_VALUE;
            for (int rank = 0; rank < size; rank++) {
                least = Math.min(least, margins[rank]);
            }
            return least;
        }

        /** The first RANK that does not STAND; NOT, if all do. */
        int firstFaller() {
            for (int rank = 0; rank < size; rank++) {
                if (margins[rank] < 0) {
                    return rank;
                }
            }
            return NOT;
        }

        /** RANKS that do not STAND, as bits. */
        int fallers() {
            int bits = 0;
            for (int rank = 0; rank < size; rank++) {
                if (margins[rank] < 0) {
                    bits |= 1 << rank;
                }
            }
            return bits;
        }

        /** ROPED, if this RANK falls. */
        int pulledInBy(int rank) {
            int fallen = 1 << rank;
            // a round that pulls in nobody is the last that matters, so as many as RANKS are enough
            for (int round = 0; round < size; round++) {
                int falling = fallen;
                for (int k = 0; k < size; k++) {
                    if (margins[k] < pullOf(k - 1, fallen) + pullOf(k + 1, fallen)) {
                        falling |= 1 << k;
                    }
                }
                fallen = falling;
            }
            return fallen;
        }

        void putInOrder() {
            for (int n = 1; n < size; n++) {
                for (int k = n; k > 0 && ranks[k - 1] > ranks[k]; k--) {
                    swap(k - 1, k);
                }
            }
        }

        /** Goes on to the next greater order as digits; false, if there is none. */
        boolean goOnToNextOrder() {
            int k = size - 2;
            while (k >= 0 && ranks[k] > ranks[k + 1]) {
                k--;
            }
            if (k < 0) {
                return false;
            }
            int greater = size - 1;
            while (greater > k && ranks[greater] < ranks[k]) {
                greater--;
            }
            swap(k, greater);
            turnAround(k + 1, size - 1);
            return true;
        }

        int asDigits() {
            int digits = 0;
            for (int rank = 0; rank < size; rank++) {
                digits = 10 * digits + ranks[rank] + 1;
            }
            return digits;
        }

        private boolean isRank(int rank) {
            return rank >= 0 && rank < size;
        }

        /** HOLD, as it is alike in all FORMS. */
        private int holdAlike(int person, int depth, int bed) {
            int weight = people.trait(person, People.WEIGHT);
            int height = people.trait(person, People.HEIGHT);
            int borne = quotient(weight * Math.min(depth, height), height);
            return (weight + people.trait(person, People.PACK) - borne) * (bed + people.trait(person, People.LEGS));
        }

        private int holdInForm(int hold, int mean) {
            return form == ALONE ? hold + hold / 10 : form == LINED ? (hold + mean) / 2 : hold;
        }

        private int leeOf(int rank) {
            switch (form) {
                case ROWED: return FULL_LEE - ROW_LEE * rank;
                case WEDGED: return rank >= 0 && rank < WEDGE_LEE.length ? WEDGE_LEE[rank] : FULL_LEE;
                case EACH_LAST: return LAST_LEE;
                default: return FULL_LEE;
            }
        }

        private int pullOf(int rank, int fallen) {
            return isRank(rank) && hasBit(fallen, rank) ? pushes[rank] / 2 : 0;
        }

        private void swap(int k, int other) {
            int person = ranks[k];
            ranks[k] = ranks[other];
            ranks[other] = person;
        }

        private void turnAround(int from, int to) {
            int high = to;
            for (int low = from; low < high; low++) {
                swap(low, high);
                high--;
            }
        }
    }

    /** The PARTY in the river: what happens to it in all CELLS of a PLACE, and where and when it goes best. */
    private static final class Crossing {
        private final River river;
        private final Laws laws;
        private final Party party;
        /** What was sought last, and its LEAST or LINE. */
        int found, worth;

        Crossing(River river, Laws laws, Party party) {
            this.river = river;
            this.laws = laws;
            this.party = party;
        }

        void enter(int place, int i, int rise, int gust) {
            int pace = river.paceAt(place, i, rise) + gust;
            party.enter(river.depthAt(place, i, rise), pace, river.told(place, i, River.BED));
        }

        boolean allStand(int place, int i, int rise, int gust) {
            enter(place, i, rise, gust);
            return party.firstFaller() == NOT;
        }

        /** LEAST; where it is not above the floor, any MARGIN that is not. */
        int leastMargin(int place, int rise, int floor) {
            int least = Integer.MAX_VALUE;
            for (int i = 0; i < river.cellsOf(place) && least > floor; i++) {
                enter(place, i, rise, 0);
                least = Math.min(least, party.leastMargin());
            }
            return least;
        }

        /** FIRST, as 100 times the CELL and the RANK; NOT, if all STAND. */
        int firstFall(int place, int rise) {
            for (int i = 0; i < river.cellsOf(place); i++) {
                enter(place, i, rise, 0);
                int rank = party.firstFaller();
                if (rank != NOT) {
                    return 100 * i + rank;
                }
            }
            return NOT;
        }

        void seekOrder(int place, int rise) {
            found = NOT;
            worth = VOID;
            party.putInOrder();
            boolean more = true;
            // 120 orders of five are the most
            for (int n = 0; more && n < 120; n++) {
                prefer(party.asDigits(), leastMargin(place, rise, worth));
                more = party.goOnToNextOrder();
            }
        }

        /** Seeks BEST; false, if there is none. */
        boolean seekBest(int from, int to) {
            found = NOT;
            worth = VOID;
            for (int hour = from; hour <= to; hour++) {
                if (!isDark(hour)) {
                    seekBestAt(hour, laws.riseInForce(hour));
                }
            }
            return found != NOT;
        }

        private void seekBestAt(int hour, int rise) {
            for (int place = 0; place < river.made; place++) {
                for (int form = 0; form < FORMS; form++) {
                    party.form = form;
                    prefer(1000 * hour + 10 * place + form, leastMargin(place, rise, worth));
                }
            }
        }

        void seekWall() {
            found = NOT;
            worth = NO_LINE;
            for (int place = 0; place < river.made; place++) {
                for (int form = 0; form < FORMS; form++) {
                    party.form = form;
                    prefer(10 * place + form, highestRise(place, worth));
                }
            }
        }

        private void prefer(int candidate, int itsWorth) {
            if (itsWorth > worth) {
                found = candidate;
                worth = itsWorth;
            }
        }

        /** LINE, if it is above the floor; NO_LINE otherwise. */
        int highestRise(int place, int floor) {
            for (int rise = GREATEST_RISE; rise >= LEAST_RISE && rise > floor; rise--) {
                if (firstFall(place, rise) == NOT) {
                    return rise;
                }
            }
            return NO_LINE;
        }

        int timesOver(int place, int rise, int seed, int times, int most) {
            int z = seed;
            int overs = 0;
            for (int n = 0; n < times; n++) {
                boolean over = true;
                for (int i = 0; i < river.cellsOf(place); i++) {
                    z = z * 1103515245 + 12345;
                    over = over && allStand(place, i, rise, remainder(z >>> 8, most));
                }
                overs += asNumber(over);
            }
            return overs;
        }

        int firstHourOver(int place, int from) {
            for (int hour = from; hour < HOURS; hour++) {
                if (!isDark(hour) && firstFall(place, laws.riseInForce(hour)) == NOT) {
                    return hour;
                }
            }
            return NOT;
        }

        /** MUST NOT, as bits. */
        int fallersAsLast(int place, int rise) {
            int bits = 0;
            party.takeEachAsLast();
            for (int i = 0; i < river.cellsOf(place); i++) {
                enter(place, i, rise, 0);
                bits |= party.fallers();
            }
            return bits;
        }

        /** The first CELL of MIDST in which not all STAND; how many CELLS there are, if there is none. */
        int stoppedIn(int place, int hour, int t) {
            int i = 0;
            while (i < river.cellsOf(place) && allStand(place, i, laws.riseInForce(hourAfter(hour, i, t)), 0)) {
                i++;
            }
            return i;
        }

        boolean comesBack(int place, int hour, int t, int stop) {
            for (int j = stop - 1; j >= 0; j--) {
                int rise = laws.riseInForce(hourAfter(hour, 2 * stop - 1 - j, t));
                if (!allStand(place, j, rise, 0)) {
                    return false;
                }
            }
            return true;
        }

        private static int hourAfter(int hour, int cellsGone, int t) {
            return Math.min(HOURS - 1, hour + cellsGone * t / 60);
        }
    }

    /** CHANGES of values of CELLS (their slots) and of PEOPLE (their slots behind those of CELLS). */
    private static final class Changes {
        private static final int MOST = 40;

        private final River river;
        private final People people;
        private final int[] slots = new int[MOST];
        private final int[] before = new int[MOST];
        private final int[] after = new int[MOST];
        /** The done ones come first in the rows, the undone ones right behind them. */
        int done, undone;

        Changes(River river, People people) {
            this.river = river;
            this.people = people;
        }

        /** What the value was; only one that differs is a change. */
        int make(int slot, int v) {
            int was = slot < River.VALUES ? river.valueAt(slot) : people.valueAt(slot - River.VALUES);
            if (was != v) {
                record(slot, was, v);
                write(slot, v);
            }
            return was;
        }

        boolean takeBack() {
            if (done <= 0) {
                return false;
            }
            done--;
            undone++;
            write(slots[done], before[done]);
            return true;
        }

        boolean makeAgain() {
            if (undone <= 0 || done >= MOST) {
                return false;
            }
            write(slots[done], after[done]);
            done++;
            undone--;
            return true;
        }

        private void record(int slot, int was, int v) {
            if (done >= MOST) {
                dropOldest();
            }
            slots[done] = slot;
            before[done] = was;
            after[done] = v;
            done++;
            undone = 0;
        }

        private void dropOldest() {
            done = MOST - 1;
            System.arraycopy(slots, 1, slots, 0, done);
            System.arraycopy(before, 1, before, 0, done);
            System.arraycopy(after, 1, after, 0, done);
        }

        private void write(int slot, int v) {
            if (slot < River.VALUES) {
                river.putValue(slot, v);
            } else {
                people.putValue(slot - River.VALUES, v);
            }
        }
    }

    /** NOTCHES, by rising HOURS. */
    private static final class Notches {
        static final int MOST = 20;

        private final int[] hours = new int[MOST];
        private final int[] rises = new int[MOST];
        int made;

        boolean isFull() {
            return made >= MOST;
        }

        boolean mayCome(int hour, int rise) {
            boolean isLater = made <= 0 || hour > hours[made - 1];
            return isLater && isHour(hour) && isWithin(rise, LEAST_RISE, GREATEST_RISE);
        }

        int add(int hour, int rise) {
            if (isFull()) {
                return FULL;
            }
            hours[made] = hour;
            rises[made] = rise;
            made++;
            return made - 1;
        }

        int differenceFrom(Laws laws, int law) {
            int sum = 0;
            for (int k = 0; k < made; k++) {
                sum += Math.abs(laws.riseBy(law, hours[k]) - rises[k]);
            }
            return sum;
        }

        int nearestOf(Laws laws) {
            int nearest = 0;
            for (int law = 1; law < laws.made; law++) {
                if (differenceFrom(laws, law) < differenceFrom(laws, nearest)) {
                    nearest = law;
                }
            }
            return nearest;
        }
    }

    /** BODIES, and their ACTS, whose bodies come from their own KIND or from those above it. */
    private static final class Bodies {
        private static final int MOST = 50, MOST_TRACE = 24, MOST_DEEP = 24, KINDS = 8, ACTS = 4;
        private static final int STANDS = 0, STEPS = 1, SWEEPS = 2, SINKS = 3, NO_KIND = -1, NO_BODY = 0;
        private static final int[] ABOVE = {NO_KIND, 0, 0, 2, 1, 4, 0, 6};
        /** Each KIND's own bodies for the four ACTS; FORM has those of STANDS and SINKS, too. */
        private static final int[] OWN = {
            1, 10, 11, 2,
            20, 0, 0, 0,
            0, 30, 0, 0,
            0, 41, 40, 0,
            0, 0, 0, 50,
            0, 0, 60, 61,
            70, 0, 0, 0,
            81, 80, 0, 0,
        };

        private final int[] kinds = new int[MOST];
        private final int[] trace = new int[MOST_TRACE];
        int made, ran;
        private int actor;

        static boolean isKind(int kind) {
            return kind >= 0 && kind < KINDS;
        }

        static boolean isUnder(int kind, int top) {
            int k = kind;
            for (int n = 0; n < KINDS && isKind(k); n++) {
                if (k == top) {
                    return true;
                }
                k = ABOVE[k];
            }
            return false;
        }

        boolean isFull() {
            return made >= MOST;
        }

        boolean has(int body) {
            return body >= 0 && body < made;
        }

        int add(int kind) {
            if (isFull()) {
                return FULL;
            }
            kinds[made] = kind;
            made++;
            return made - 1;
        }

        int kindOf(int body) {
            return has(body) ? kinds[body] : NO_KIND;
        }

        boolean hasTrace(int i) {
            return i >= 0 && i < Math.min(ran, MOST_TRACE);
        }

        int traceAt(int i) {
            return hasTrace(i) ? trace[i] : NO_BODY;
        }

        int start(int body, int act, int x) {
            ran = 0;
            if (!has(body) || act < 0 || act >= ACTS) {
                return 0;
            }
            actor = body;
            return call(kindOf(body), act, x, 0);
        }

        /** Runs the body that the KIND has for the ACT, or the next KIND above that has one. */
        private int call(int from, int act, int x, int deep) {
            int kind = ownerOf(from, act);
            // no ACT goes so deep: the longest chain of bodies has six
            if (!isKind(kind) || deep >= MOST_DEEP) {
                return 0;
            }
            int body = OWN[kind * ACTS + act];
            note(body);
            return run(body, ABOVE[kind], x, deep + 1);
        }

        private int run(int body, int above, int x, int deep) {
            int own = kindOf(actor);
            switch (body) {
                case 1: return x + actor;
                case 2: return call(own, STEPS, x, deep) - call(own, SWEEPS, 1, deep);
                case 10: return call(own, STANDS, x, deep) * 2;
                case 11: return x ^ actor;
                case 20: return call(above, STANDS, x, deep) + 3;
                case 30: return -call(above, STEPS, x, deep);
                case 40: return call(above, SWEEPS, x, deep) * 3;
                case 41: return call(above, STEPS, x + 1, deep);
                case 50: return call(above, SINKS, x, deep) ^ 5;
                case 60: return call(above, SWEEPS, x, deep) - call(own, STANDS, 2, deep);
                case 61: return call(above, SINKS, x, deep) + 1;
                case 70: return call(above, STANDS, x, deep) * 2;
                case 80: return call(above, STEPS, x, deep) + call(own, SWEEPS, 2, deep);
                case 81: return call(above, STANDS, x, deep) - 1;
                default: return 0;
            }
        }

        private static int ownerOf(int from, int act) {
            int kind = from;
            for (int n = 0; n < KINDS && isKind(kind); n++) {
                if (OWN[kind * ACTS + act] != NO_BODY) {
                    return kind;
                }
                kind = ABOVE[kind];
            }
            return NO_KIND;
        }

        private void note(int body) {
            if (ran < MOST_TRACE) {
                trace[ran] = body;
            }
            ran++;
        }
    }

    /** SHELVES: each holds nothing, a BODY, or a ROW of one of five sorts. */
    private static final class Shelves {
        static final int NOTHING = -2, BODY = -1, BYTES = 0, LONGEST = 60;
        private static final int MOST = 6, SHORTS = 1, INTS = 2, BOOLEANS = 4;

        private final int[] sorts = new int[MOST];
        /** How long a ROW is. */
        private final int[] lengths = new int[MOST];
        private final int[] bodies = new int[MOST];
        private final long[][] rows = new long[MOST][LONGEST];

        Shelves() {
            Arrays.fill(sorts, NOTHING);
        }

        static boolean has(int shelf) {
            return shelf >= 0 && shelf < MOST;
        }

        static boolean isSort(int sort) {
            return isWithin(sort, BYTES, BOOLEANS);
        }

        int sortOn(int shelf) {
            return has(shelf) ? sorts[shelf] : NOTHING;
        }

        int bodyOn(int shelf) {
            return has(shelf) ? bodies[shelf] : -1;
        }

        /** Holds the BODY; nothing, if it is -1. */
        void hold(int shelf, int body) {
            if (has(shelf)) {
                sorts[shelf] = body == -1 ? NOTHING : BODY;
                bodies[shelf] = body;
            }
        }

        void holdRow(int shelf, int sort, int n) {
            if (has(shelf)) {
                sorts[shelf] = sort;
                lengths[shelf] = n;
                Arrays.fill(rows[shelf], 0L);
            }
        }

        /** Why there is no such element; 0, if there is. */
        int refusalOf(int shelf, int i) {
            if (!has(shelf)) {
                return BAD;
            }
            if (sorts[shelf] == NOTHING) {
                return NOTHING_THERE;
            }
            if (sorts[shelf] == BODY) {
                return OTHER_KIND;
            }
            return hasStretch(shelf, i, 1) ? 0 : NO_SUCH_INDEX;
        }

        /** Whether the ROW has n elements from place i on. */
        boolean hasStretch(int shelf, int i, int n) {
            return has(shelf) && isSort(sorts[shelf]) && n >= 0 && i >= 0 && i <= lengths[shelf]
                && n <= lengths[shelf] - i;
        }

        long elementAt(int shelf, int i) {
            return hasStretch(shelf, i, 1) ? rows[shelf][i] : 0;
        }

        void putAt(int shelf, int i, long v) {
            if (hasStretch(shelf, i, 1)) {
                rows[shelf][i] = kept(sorts[shelf], v);
            }
        }

        void copy(int shelf, int i, int other, int j, int n) {
            if (hasStretch(shelf, i, n) && hasStretch(other, j, n)) {
                System.arraycopy(rows[shelf], i, rows[other], j, n);
            }
        }

        private static long kept(int sort, long v) {
            switch (sort) {
                case BYTES: return (byte) v;
                case SHORTS: return (short) v;
                case INTS: return (int) v;
                case BOOLEANS: return v == 0 ? 0 : 1;
                default: return v;
            }
        }
    }
}
