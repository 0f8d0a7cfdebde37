import java.util.ArrayList;
import java.util.List;

/**
 * Objects that hold something of all, and what can be asked of one: two objects that answer all of it alike are in the
 * same state. Asking uses an object up; making it and asking takes less than the 512 calls that an object is used for.
 */
final class Samples {
    /** Two PLACES (of 3 CELLS and of 1), two LAWS, three PEOPLE, two NOTCHES, four BODIES, and ten bodies in THE TRACE. */
    static final int PLACES = 2, LAWS = 2, PEOPLE = 3, NOTCHES = 2, BODIES = 4, RAN = 10;
    /** What is on the SHELVES: a ROPED BODY; bytes, shorts, longs and booleans of these lengths; nothing. */
    static final int BODY = 0, BYTES = 1, SHORTS = 2, LONGS = 3, BOOLEANS = 4, NOTHING = 5;
    static final int[] LENGTHS = {0, 5, 3, 2, 4, 0};

    private final AcrossOnFoot x;
    private final List<String> answers = new ArrayList<>();

    private Samples(AcrossOnFoot x) {
        this.x = x;
    }

    /** Something of all and room for more; two CHANGES may be UNDONE and two DONE AGAIN. */
    static AcrossOnFoot some() {
        AcrossOnFoot x = Due.at("3,4,5;9,11,2;0,2,1/7", "1,2,3/9");
        Due.law(x, "h/4-8+r-i");
        Due.law(x, "7");
        x.force(0);
        x.sky(0, 12);
        x.sky(1, 9);
        x.person(7018, 420);
        x.person(5010, 905);
        x.person(12022, 0);
        x.notch(3, 5);
        x.notch(20, -4);
        x.mend(0, 1, 0, 8);
        x.set(2, 1, 6);
        x.mend(1, 0, 2, 4);
        x.set(0, 0, 1);
        x.undo();
        x.undo();
        for (int kind : new int[] {0, 5, 3, 7}) {
            x.body(kind);
        }
        x.keep(BODY, 1);
        for (int shelf = BYTES; shelf <= BOOLEANS; shelf++) {
            x.row(shelf, new int[] {-1, 0, 1, 3, 4}[shelf], LENGTHS[shelf]);
            for (int i = 0; i < LENGTHS[shelf]; i++) {
                x.put(shelf, i, 21 + 3 * i);
            }
        }
        x.act(1, 3, 5);
        Due.feed(x, "4,5,6");
        return x;
    }

    /** As many PLACES, LAWS, PEOPLE, NOTCHES, BODIES, CHANGES and bytes on THE TAPE as there may be. */
    static AcrossOnFoot full() {
        AcrossOnFoot x = new AcrossOnFoot();
        for (int n = 0; n < 6; n++) {
            Due.place(x, n + "," + (n + 1) + "," + (n + 2) + "/" + n);
        }
        for (int n = 0; n < 4; n++) {
            Due.law(x, "h-" + n);
        }
        x.force(3);
        for (int n = 0; n < 8; n++) {
            x.person(5018 + 100 * n, 105 * n);
        }
        for (int n = 0; n < 20; n++) {
            x.notch(n, n);
        }
        for (int n = 0; n < 50; n++) {
            x.body(n % 8);
        }
        for (int n = 0; n < 40; n++) {
            x.mend(0, 0, 0, 1 + n % 30);
        }
        for (int n = 0; n < 30; n++) {
            x.feed(4, 'h');
        }
        return x;
    }

    /** All that can be asked of the object, with its answers. */
    static List<String> answers(AcrossOnFoot x) {
        Samples s = new Samples(x);
        s.askCounts();
        s.askRiver();
        s.askPeople();
        s.askShelves();
        s.askNotches();
        s.askChanges();
        s.askWhatComesNext();
        return s.answers;
    }

    private void is(String call, long answer) {
        answers.add(call + " answered " + answer);
    }

    private void askCounts() {
        for (int what = 0; what <= 7; what++) {
            is("count(" + what + ")", x.count(what));
        }
        for (int i = 0; i <= RAN; i++) {
            is("trace(" + i + ")", x.trace(i));
        }
    }

    private void askRiver() {
        for (int law = 0; law < x.count(1); law++) {
            is("rise(" + law + ", 0)", x.rise(law, 0));
            is("rise(" + law + ", 30)", x.rise(law, 30));
        }
        for (int place = 0; place < x.count(0); place++) {
            int cells = x.cell(place, -1, 0, 0);
            is("cell(" + place + ", -1, 0, 0)", cells);
            is("cell(" + place + ", -1, 1, 0)", x.cell(place, -1, 1, 0));
            for (int i = 0; i < cells; i++) {
                for (int what = 0; what <= 4; what++) {
                    is("cell(" + place + ", " + i + ", " + what + ", 30)", x.cell(place, i, what, 30));
                }
            }
        }
        is("force(-1)", x.force(-1));
        is("sky(0, 0)", x.sky(0, 0));
        is("sky(1, 0)", x.sky(1, 0));
    }

    private void askPeople() {
        for (int person = 0; person < x.count(2); person++) {
            for (int what = 0; what <= 3; what++) {
                is("of(" + person + ", " + what + ")", x.of(person, what));
            }
        }
    }

    /** What is held, how long it is, and, by what a number becomes in it, of which sort it is. */
    private void askShelves() {
        for (int shelf = 0; shelf <= 5; shelf++) {
            is("taken(" + shelf + ", 0)", x.taken(shelf, 0));
            for (int i = 0; i <= LENGTHS[shelf]; i++) {
                is("element(" + shelf + ", " + i + ")", x.element(shelf, i));
            }
            is("put(" + shelf + ", 0, ..)", x.put(shelf, 0, 0x12345678abcdL));
            is("element(" + shelf + ", 0)", x.element(shelf, 0));
        }
    }

    private void askNotches() {
        for (int law = 0; law < x.count(1); law++) {
            is("off(" + law + ")", x.off(law));
        }
        is("fit()", x.fit());
    }

    private void askChanges() {
        int left;
        do {
            left = x.redo();
            is("redo()", left);
        } while (left >= 0);
        is("of(0, 2)", x.of(0, 2));
        is("cell(1, 0, 2, 0)", x.cell(1, 0, 2, 0));
        do {
            left = x.undo();
            is("undo()", left);
            is("cell(0, 0, 0, 0)", x.cell(0, 0, 0, 0));
        } while (left >= 0);
        is("cell(0, 1, 0, 0)", x.cell(0, 1, 0, 0));
        is("of(2, 3)", x.of(2, 3));
    }

    private void askWhatComesNext() {
        Due.feed(x, "/7");
        int place = x.place();
        is("place()", place);
        for (int what = 0; what <= 2; what++) {
            is("cell(" + place + ", 0, " + what + ", 0)", x.cell(place, 0, what, 0));
        }
        is("law()", x.law());
        is("count(4)", x.count(4));
        is("person(7018, 420)", x.person(7018, 420));
        is("body(0)", x.body(0));
        is("notch(21, 0)", x.notch(21, 0));
    }
}
