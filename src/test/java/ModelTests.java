import java.util.Random;

/** Long runs of calls drawn by fixed seeds: each answer of the class is that of the model. */
public final class ModelTests {
    private static final int RUNS = 400, CALLS = 512;
    private static final int[] ODD = {
        Integer.MIN_VALUE, Integer.MIN_VALUE + 1, -1000000, -100, -2, -1, 8, 12, 48, 60, 61, 99, 100, 4800, 99999,
        100000, 1000000, Integer.MAX_VALUE - 1, Integer.MAX_VALUE,
    };
    private static final String LAW_SIGNS = "hcri01234567890+-*/%<=>|&!()?;";

    private final Random random;
    private final AcrossOnFoot x = new AcrossOnFoot();
    private final Model model = new Model();
    private final int seed;
    private int calls = 0;
    private boolean alike = true;

    private ModelTests(int seed) {
        this.seed = seed;
        random = new Random(seed);
    }

    public static void main(String[] args) {
        for (int seed = 0; seed < RUNS; seed++) {
            new ModelTests(seed).run();
        }
        Due.end();
    }

    private void run() {
        setUp();
        while (calls < CALLS && alike) {
            call(random.nextInt(44));
        }
    }

    /** So that most runs have enough of all to be asked about. */
    private void setUp() {
        for (int n = random.nextInt(7); n > 0; n--) {
            feedBoth(placeText());
            both("place()", x.place(), model.place());
        }
        for (int n = random.nextInt(5); n > 0; n--) {
            feedBoth(lawText());
            both("law()", x.law(), model.law());
        }
        for (int n = random.nextInt(9); n > 0; n--) {
            call(9);
        }
    }

    private void both(String call, long answer, long due) {
        calls++;
        Due.is("seed " + seed + ", call " + calls + ", " + call, answer, due);
        alike &= answer == due;
    }

    private void feedBoth(String text) {
        for (int from = 0; from < text.length() && calls < CALLS; from += 4) {
            int n = Due.many(text, from);
            int v = Due.packed(text, from);
            both("feed " + text, x.feed(n, v), model.feed(n, v));
        }
    }

    // ---- what is drawn

    private int upTo(int most) {
        return random.nextInt(most + 1);
    }

    /** Mostly from 0 to the most, seldom something odd. */
    private int near(int most) {
        int kind = random.nextInt(40);
        return kind == 0 ? ODD[random.nextInt(ODD.length)] : kind == 1 ? most + 1 : kind == 2 ? -1 : upTo(most);
    }

    private int ph() {
        return random.nextInt(40) == 0 ? near(600) : 100 * near(5) + near(47);
    }

    private int group() {
        int persons = Math.max(1, model.count(2));
        int size = 1 + random.nextInt(Math.min(5, persons));
        int digits = 0;
        int used = 0;
        for (int n = 0; n < size; n++) {
            int person = random.nextInt(persons);
            for (int tries = 0; (used >> person & 1) == 1 && tries < 30; tries++) {
                person = random.nextInt(persons);
            }
            used |= 1 << person;
            digits = 10 * digits + person + 1;
        }
        return random.nextInt(30) == 0 ? near(200000) : digits;
    }

    private int gf() {
        return 10 * group() + near(3);
    }

    private int measure() {
        return random.nextInt(3) == 0 ? upTo(30) : upTo(8);
    }

    private String placeText() {
        StringBuilder text = new StringBuilder();
        int cells = 1 + random.nextInt(random.nextInt(4) == 0 ? 12 : 5);
        for (int i = 0; i < cells; i++) {
            text.append(i == 0 ? "" : ";").append(measure()).append(',').append(measure()).append(',').append(upTo(9));
        }
        return spoilt(text.append('/').append(upTo(9)), "0123456789,;/");
    }

    private String lawText() {
        StringBuilder text = new StringBuilder();
        for (int lines = 1 + random.nextInt(3); lines > 0; lines--) {
            if (random.nextInt(3) > 0) {
                text.append(expression(2)).append('?');
            }
            text.append(expression(3)).append(lines > 1 ? ";" : "");
        }
        return spoilt(text, LAW_SIGNS);
    }

    private String expression(int deep) {
        if (deep == 0 || random.nextInt(4) == 0) {
            int kind = random.nextInt(6);
            return kind < 4 ? String.valueOf("hcri".charAt(kind)) : String.valueOf(upTo(kind == 4 ? 50 : 9999));
        }
        switch (random.nextInt(9)) {
            case 0: return "(" + expression(deep - 1) + ")";
            case 1: return "!" + expression(0);
            case 2: return "-" + expression(0);
            case 3: return opened(1 + random.nextInt(7));
            default: return expression(deep - 1) + "+-*/%<=>|&".charAt(random.nextInt(10)) + expression(deep - 1);
        }
    }

    /** An operand with so many of ( ! - ahead: six are the most that may be open. */
    private String opened(int signs) {
        StringBuilder text = new StringBuilder();
        int brackets = 0;
        for (int n = 0; n < signs; n++) {
            char sign = "(!-".charAt(random.nextInt(3));
            brackets += sign == '(' ? 1 : 0;
            text.append(sign);
        }
        return text.append(expression(0)).append(")".repeat(brackets)).toString();
    }

    private String spoilt(StringBuilder text, String signs) {
        if (random.nextInt(4) == 0) {
            int at = random.nextInt(text.length());
            switch (random.nextInt(3)) {
                case 0: text.deleteCharAt(at); break;
                case 1: text.insert(at, signs.charAt(random.nextInt(signs.length()))); break;
                default: text.setCharAt(at, signs.charAt(random.nextInt(signs.length())));
            }
        }
        return text.toString();
    }

    private int ki() {
        return random.nextInt(30) == 0 ? near(600) : 100 * upTo(2) + upTo(3);
    }

    // ---- the calls

    private void call(int which) {
        if (which < 15) {
            callRiver(which);
        } else if (which < 30) {
            callGroups(which);
        } else {
            callShelves(which);
        }
    }

    private void callRiver(int which) {
        int a = near(5);
        int b = near(3);
        int c = near(4);
        int d = near(30);
        switch (which) {
            case 0: feedBoth(random.nextBoolean() ? placeText() : lawText()); break;
            case 1: both("feed(" + b + ", " + d + ")", x.feed(b, d), model.feed(b, d)); break;
            case 2: both("place()", x.place(), model.place()); break;
            case 3: both("cell(" + a + ", " + (b - 1) + ", " + c + ", " + d + ")", x.cell(a, b - 1, c, d),
                model.cell(a, b - 1, c, d)); break;
            case 4: both("mend(" + a + ", " + b + ", " + c % 3 + ", " + d + ")", x.mend(a, b, c % 3, d),
                model.mend(a, b, c % 3, d)); break;
            case 5: both("law()", x.law(), model.law()); break;
            case 6: both("force(" + (c - 1) + ")", x.force(c - 1), model.force(c - 1)); break;
            case 7: both("sky(" + b % 2 + ", " + d + ")", x.sky(b % 2, d), model.sky(b % 2, d)); break;
            case 8: both("rise(" + b + ", " + d + ")", x.rise(b, d), model.rise(b, d)); break;
            case 9: callPerson(); break;
            case 10: both("set(" + a + ", " + b % 2 + ", " + d + ")", x.set(a, b % 2, d), model.set(a, b % 2, d)); break;
            case 11: both("of(" + a + ", " + b + ")", x.of(a, b), model.of(a, b)); break;
            case 12: both("undo()", x.undo(), model.undo()); break;
            case 13: both("redo()", x.redo(), model.redo()); break;
            default: both("count(" + d % 8 + ")", x.count(d % 8), model.count(d % 8));
        }
    }

    private void callPerson() {
        int wh = random.nextInt(20) == 0 ? near(20000) : 100 * (30 + upTo(90)) + 10 + upTo(12);
        int lp = random.nextInt(20) == 0 ? near(2000) : 100 * upTo(9) + upTo(40);
        both("person(" + wh + ", " + lp + ")", x.person(wh, lp), model.person(wh, lp));
    }

    private void callGroups(int which) {
        int ph = ph();
        int gf = gf();
        int what = near(1);
        int a = near(60);
        switch (which) {
            case 15: {
                int ki = ki();
                int of = near(2);
                both("margin(" + ph + ", " + gf + ", " + ki + ", " + of + ")", x.margin(ph, gf, ki, of),
                    model.margin(ph, gf, ki, of));
                break;
            }
            case 16: {
                int of = near(2);
                both("over(" + ph + ", " + gf + ", " + of + ")", x.over(ph, gf, of), model.over(ph, gf, of));
                break;
            }
            case 17: both("order(" + ph + ", " + gf + ", " + what + ")", x.order(ph, gf, what),
                model.order(ph, gf, what)); break;
            case 18: {
                int fromTo = random.nextInt(20) == 0 ? near(5000) : 100 * upTo(20) + 20 + upTo(27);
                both("best(" + gf / 10 + ", " + fromTo + ", " + what + ")", x.best(gf / 10, fromTo, what),
                    model.best(gf / 10, fromTo, what));
                break;
            }
            case 19: {
                int seed = random.nextInt();
                int ng = random.nextInt(20) == 0 ? near(5100) : 100 * (1 + upTo(49)) + 1 + upTo(19);
                both("gusts(" + ph + ", " + gf + ", " + seed + ", " + ng + ", " + what + ")",
                    x.gusts(ph, gf, seed, ng, what), model.gusts(ph, gf, seed, ng, what));
                break;
            }
            case 20: both("await(" + ph + ", " + gf + ")", x.await(ph, gf), model.await(ph, gf)); break;
            case 21: both("mustNot(" + ph + ")", x.mustNot(ph), model.mustNot(ph)); break;
            case 22: both("midst(" + ph + ", " + gf + ", " + a + ", " + what + ")", x.midst(ph, gf, a, what),
                model.midst(ph, gf, a, what)); break;
            case 23: both("line(" + ph / 100 + ", " + gf + ")", x.line(ph / 100, gf), model.line(ph / 100, gf)); break;
            case 24: both("wall(" + gf / 10 + ", " + what + ")", x.wall(gf / 10, what), model.wall(gf / 10, what)); break;
            case 25: {
                int ki = ki();
                both("roped(" + ph + ", " + gf + ", " + ki + ")", x.roped(ph, gf, ki), model.roped(ph, gf, ki));
                break;
            }
            case 26: {
                int yb = random.nextInt(10) == 0 ? near(1000) : 10 * (1 + upTo(9)) + 1 + upTo(8);
                both("stick(" + ph + ", " + yb + ")", x.stick(ph, yb), model.stick(ph, yb));
                break;
            }
            case 27: {
                int hour = random.nextInt(4) == 0 ? near(47) : upTo(20);
                both("notch(" + hour + ", " + (a - 20) + ")", x.notch(hour, a - 20), model.notch(hour, a - 20));
                break;
            }
            case 28: both("off(" + what + ")", x.off(what), model.off(what)); break;
            default: both("fit()", x.fit(), model.fit());
        }
    }

    private void callShelves(int which) {
        int shelf = near(5);
        int i = near(8);
        int n = near(6);
        switch (which) {
            case 30: both("notches(" + shelf + ", " + i + ", " + n + ")", x.notches(shelf, i, n),
                model.notches(shelf, i, n)); break;
            case 31: both("body(" + i + ")", x.body(i), model.body(i)); break;
            case 32: case 33: {
                int body = near(11);
                int act = near(3);
                int v = random.nextBoolean() ? random.nextInt() : near(9);
                both("act(" + body + ", " + act + ", " + v + ")", x.act(body, act, v), model.act(body, act, v));
                break;
            }
            case 34: both("trace(" + i + ")", x.trace(i), model.trace(i)); break;
            case 35: both("keep(" + shelf + ", " + (i - 1) + ")", x.keep(shelf, i - 1), model.keep(shelf, i - 1)); break;
            case 36: {
                int sort = random.nextBoolean() ? 0 : near(4);
                int length = random.nextInt(4) == 0 ? near(60) : 5 + upTo(5);
                both("row(" + shelf + ", " + sort + ", " + length + ")", x.row(shelf, sort, length),
                    model.row(shelf, sort, length));
                break;
            }
            case 37: case 38: case 39: {
                long v = random.nextInt(4) == 0 ? random.nextLong() : near(47);
                both("put(" + shelf + ", " + i + ", " + v + ")", x.put(shelf, i, v), model.put(shelf, i, v));
                break;
            }
            case 40: both("element(" + shelf + ", " + i + ")", x.element(shelf, i), model.element(shelf, i)); break;
            case 41: {
                int other = near(5);
                int j = near(5);
                both("shift(" + shelf + ", " + i + ", " + other + ", " + j + ", " + n + ")",
                    x.shift(shelf, i, other, j, n), model.shift(shelf, i, other, j, n));
                break;
            }
            case 42: both("taken(" + shelf + ", " + i + ")", x.taken(shelf, i), model.taken(shelf, i)); break;
            default: both("count(" + i + ")", x.count(i), model.count(i));
        }
    }
}
