/**
 * Texts of PLACES and LAWS, all that some signs make: each is taken, or refused at its FAULT, as by the model; and a
 * FAULT is what the document calls one: what is ahead of it goes on to a text, and with its byte does not.
 */
public final class TextTests {
    private static final String LAW_SIGNS = "h2()!-+*<|&?;";
    private static final String[] LAW_HEADS = {
        "!!!!!!", "((((((", "------", "(!-(!-", "!!!!!", "(((((", "-----", "-!(-!", "((((((h", "1+(((((", "1<!!!!!", "1?(((((",
        "1;-----", "1&((((!", "((h)!-+(((((", "123", "1<2",
    };
    private static final String PLACE_SIGNS = "0312,;/";
    private static final String[] PLACE_HEADS = {
        "30,30,9", "1,2,3;4,5,6", "1,2,3;".repeat(11), "1,2,3;".repeat(11) + "1,2,3", "0,0,0/",
    };
    /** An object is used for 512 calls at most. */
    private static final int MOST_CALLS = 300;

    private static AcrossOnFoot x;
    private static Model model;
    private static int calls;

    private TextTests() {
    }

    public static void main(String[] args) {
        startAnew();
        laws("", LAW_SIGNS, 4);
        for (String head : LAW_HEADS) {
            laws(head, LAW_SIGNS, 3);
        }
        laws("", "(!-h", 8);
        places("", 5);
        for (String head : PLACE_HEADS) {
            places(head, 4);
        }
        Due.end();
    }

    private static void startAnew() {
        x = new AcrossOnFoot();
        model = new Model();
        calls = 0;
    }

    /** All texts that begin by the head and have so many more of the signs at most. */
    private static void laws(String head, String signs, int more) {
        law(head);
        for (int k = 0; k < signs.length() && more > 0; k++) {
            laws(head + signs.charAt(k), signs, more - 1);
        }
    }

    private static void law(String text) {
        int number = lawNumber(text);
        model.feed(text);
        Due.is("6: " + text, number, model.law());
        if (number >= 0) {
            Due.is("9: " + text, x.rise(number, 30), model.rise(number, 30));
            Due.is("9: " + text, x.rise(number, 0), model.rise(number, 0));
            startAnew();
            return;
        }
        int fault = -100 - number;
        if (fault < text.length()) {
            Due.is("6: with its FAULT's byte nothing goes on: " + text, lawNumber(text.substring(0, fault + 1)), number);
        }
        Due.holds("6: what is ahead of its FAULT goes on: " + text, goesOn(text.substring(0, fault)));
    }

    /** Whether the text is a LAW, or becomes one by an operand and by what closes the brackets. */
    private static boolean goesOn(String text) {
        for (String operand : new String[] {"", "h"}) {
            for (int brackets = 0; brackets <= 6; brackets++) {
                if (lawNumber(text + operand + ")".repeat(brackets)) >= 0) {
                    startAnew();
                    return true;
                }
            }
        }
        return false;
    }

    private static int lawNumber(String text) {
        startAnewAfter(text);
        return Due.law(x, text);
    }

    private static void places(String head, int more) {
        place(head);
        for (int k = 0; k < PLACE_SIGNS.length() && more > 0; k++) {
            places(head + PLACE_SIGNS.charAt(k), more - 1);
        }
    }

    private static void place(String text) {
        startAnewAfter(text);
        int number = Due.place(x, text);
        model.feed(text);
        Due.is("3: " + text, number, model.place());
        if (number >= 0) {
            int last = x.cell(number, -1, 0, 0) - 1;
            Due.is("4: " + text, last, model.cell(number, -1, 0, 0) - 1);
            Due.is("4: " + text, x.cell(number, -1, 1, 0), model.cell(number, -1, 1, 0));
            for (int what = 0; what <= 2; what++) {
                Due.is("4: " + text, x.cell(number, 0, what, 0), model.cell(number, 0, what, 0));
                Due.is("4: " + text, x.cell(number, last, what, 0), model.cell(number, last, what, 0));
            }
            startAnew();
        }
    }

    /** Counts the calls that the text will take. */
    private static void startAnewAfter(String text) {
        calls += text.length() / 4 + 2;
        if (calls > MOST_CALLS) {
            startAnew();
        }
    }
}
