import java.util.List;

/** Counts answers that are not the ones that are due, and prints them; and makes objects to ask. */
final class Due {
    private static int wrong = 0;
    private static int asked = 0;

    private Due() {
    }

    static void is(String call, long got, long want) {
        asked++;
        if (got != want) {
            wrong++;
            System.out.println(call + " answered " + got + ", due is " + want);
        }
    }

    static void holds(String what, boolean so) {
        is(what, so ? 1 : 0, 1);
    }

    /** Two lists of calls with their answers are alike; else the first that differs is told. */
    static void alike(String what, List<String> got, List<String> want) {
        asked++;
        for (int k = 0; k < Math.max(got.size(), want.size()); k++) {
            String one = k < got.size() ? got.get(k) : "nothing more";
            String other = k < want.size() ? want.get(k) : "nothing more";
            if (!one.equals(other)) {
                wrong++;
                System.out.println(what + ": " + one + ", due is " + other);
                return;
            }
        }
    }

    /** Ends the program: with exit code 1, if one answer was not due. */
    static void end() {
        System.out.println(asked + " answers, " + wrong + " not as due");
        if (wrong != 0) {
            System.exit(1);
        }
    }

    /** Feeds a text of signs 0 to 255, up to four at a time. */
    static void feed(AcrossOnFoot x, String text) {
        for (int from = 0; from < text.length(); from += 4) {
            x.feed(many(text, from), packed(text, from));
        }
    }

    /** How many signs of the text, from a place on, one call feeds. */
    static int many(String text, int from) {
        return Math.min(4, text.length() - from);
    }

    /** These signs as the call wants them. */
    static int packed(String text, int from) {
        int v = 0;
        for (int k = 0; k < many(text, from); k++) {
            v |= text.charAt(from + k) << 8 * k;
        }
        return v;
    }

    static int place(AcrossOnFoot x, String text) {
        feed(x, text);
        return x.place();
    }

    static int law(AcrossOnFoot x, String text) {
        feed(x, text);
        return x.law();
    }

    static AcrossOnFoot at(String... places) {
        AcrossOnFoot x = new AcrossOnFoot();
        for (String place : places) {
            place(x, place);
        }
        return x;
    }
}
