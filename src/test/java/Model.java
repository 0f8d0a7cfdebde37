import java.util.ArrayList;
import java.util.Arrays;
import java.util.List;
import java.util.regex.Matcher;
import java.util.regex.Pattern;

/**
 * The document once more, by other ways than the class goes: texts by patterns and by cutting them up,
 * acts by Java's own classes, rows by Java's own arrays and refusals. It may be slow and may throw inside.
 */
final class Model {
    private static final int BAD = -1, NOT = -2, FULL = -3, STATE = -5, VOID = -2000000000;
    private static final Pattern PLACE = Pattern.compile("(?:\\d\\d?,\\d\\d?,\\d;){0,11}\\d\\d?,\\d\\d?,\\d/\\d");

    private final StringBuilder tape = new StringBuilder();
    private final List<int[][]> places = new ArrayList<>();
    private final List<Integer> belows = new ArrayList<>();
    private final List<String> laws = new ArrayList<>();
    private final List<int[]> people = new ArrayList<>();
    private final List<int[]> notches = new ArrayList<>();
    private final List<Form> bodies = new ArrayList<>();
    private final Object[] shelves = new Object[6];
    private final List<int[]> changesDone = new ArrayList<>();
    private final List<int[]> changesUndone = new ArrayList<>();
    private int inForce = -1, rain, ice;
    private List<Integer> ran = new ArrayList<>();

    // ---- the river

    int feed(int n, int v) {
        if (n < 1 || n > 4) {
            return BAD;
        }
        if (tape.length() + n > 120) {
            return FULL;
        }
        for (int k = 0; k < n; k++) {
            tape.append((char) ((v >> 8 * k) & 0xff));
        }
        return tape.length();
    }

    void feed(String text) {
        for (int from = 0; from < text.length(); from += 4) {
            feed(Due.many(text, from), Due.packed(text, from));
        }
    }

    int place() {
        if (places.size() == 6) {
            return FULL;
        }
        String text = tape.toString();
        tape.setLength(0);
        int fault = placeFault(text);
        if (fault >= 0) {
            return -100 - fault;
        }
        String[] parts = text.split("/");
        String[] cells = parts[0].split(";");
        int[][] told = new int[cells.length][];
        for (int i = 0; i < cells.length; i++) {
            told[i] = Arrays.stream(cells[i].split(",")).mapToInt(Integer::parseInt).toArray();
        }
        places.add(told);
        belows.add(Integer.parseInt(parts[1]));
        return places.size() - 1;
    }

    private static int placeFault(String text) {
        int fault = -1;
        for (int n = 1; n <= text.length() && fault < 0; n++) {
            Matcher m = PLACE.matcher(text.substring(0, n));
            if (!m.matches() && !m.hitEnd()) {
                fault = n - 1;
            }
        }
        if (fault < 0 && !PLACE.matcher(text).matches()) {
            fault = text.length();
        }
        int goesOn = fault < 0 ? text.length() : fault;
        Matcher two = Pattern.compile("(?<![0-9])[0-9][0-9]").matcher(text.substring(0, goesOn));
        while (two.find()) {
            if (Integer.parseInt(two.group()) > 30) {
                return two.start();
            }
        }
        return fault;
    }

    int cell(int place, int i, int what, int hour) {
        if (place < 0 || place >= places.size()) {
            return BAD;
        }
        int[][] told = places.get(place);
        if (i == -1) {
            return what == 0 ? told.length : what == 1 ? belows.get(place) : BAD;
        }
        if (i < 0 || i >= told.length || what < 0 || what > 4) {
            return BAD;
        }
        if (what < 3) {
            return told[i][what];
        }
        return hour < 0 || hour > 47 ? BAD : water(place, i, riseNow(hour))[what - 3];
    }

    private int[] water(int place, int i, int e) {
        int[] told = places.get(place)[i];
        return new int[] {Math.max(told[0] + e, 0), told[1] * (20 + e) / 20, told[2]};
    }

    int mend(int place, int i, int what, int v) {
        if (place < 0 || place >= places.size() || i < 0 || i >= places.get(place).length || what < 0 || what > 2
            || v < 0 || v > (what == 2 ? 9 : 30)) {
            return BAD;
        }
        return change(places.get(place)[i], what, v, new int[] {0, place, i, what});
    }

    private int change(int[] row, int at, int v, int[] where) {
        int was = row[at];
        if (was != v) {
            changesDone.add(new int[] {where[0], where[1], where[2], where[3], was, v});
            changesUndone.clear();
            if (changesDone.size() > 40) {
                changesDone.remove(0);
            }
            row[at] = v;
        }
        return was;
    }

    int law() {
        if (laws.size() == 4) {
            return FULL;
        }
        String text = tape.toString();
        tape.setLength(0);
        int fault = lawFault(text);
        if (fault >= 0) {
            return -100 - fault;
        }
        laws.add(text);
        return laws.size() - 1;
    }

    /** By a list of what is open: ( and ! and -, and = where a comparison has been in the same E. */
    private static int lawFault(String text) {
        List<Character> open = new ArrayList<>();
        boolean wantsOperand = true;
        boolean asked = false;
        int digits = 0;
        for (int at = 0; at < text.length(); at++) {
            char b = text.charAt(at);
            boolean digit = b >= '0' && b <= '9';
            if (!wantsOperand && digit && digits > 0 && digits < 4) {
                digits++;
                continue;
            }
            digits = 0;
            if (wantsOperand) {
                if (digit || "hcri".indexOf(b) >= 0) {
                    digits = digit ? 1 : 0;
                    wantsOperand = false;
                    closePrefixes(open);
                } else if ("(!-".indexOf(b) >= 0 && open.stream().filter(o -> o != '=').count() < 6) {
                    open.add(b);
                } else {
                    return at;
                }
            } else if (b == ')') {
                drop(open, '=');
                if (!drop(open, '(')) {
                    return at;
                }
                closePrefixes(open);
            } else if ("<=>".indexOf(b) >= 0) {
                if (!open.isEmpty() && open.get(open.size() - 1) == '=') {
                    return at;
                }
                open.add('=');
                wantsOperand = true;
            } else if ("|&".indexOf(b) >= 0) {
                drop(open, '=');
                wantsOperand = true;
            } else if ("+-*/%".indexOf(b) >= 0) {
                wantsOperand = true;
            } else if (b == ';' || b == '?' && !asked) {
                drop(open, '=');
                if (!open.isEmpty()) {
                    return at;
                }
                asked = b == '?';
                wantsOperand = true;
            } else {
                return at;
            }
        }
        return wantsOperand || open.contains('(') ? text.length() : -1;
    }

    private static void closePrefixes(List<Character> open) {
        while (drop(open, '!') || drop(open, '-')) {
            // each is closed by the operand
        }
    }

    private static boolean drop(List<Character> open, char what) {
        boolean is = !open.isEmpty() && open.get(open.size() - 1) == what;
        if (is) {
            open.remove(open.size() - 1);
        }
        return is;
    }

    private int riseNow(int hour) {
        return inForce < 0 ? 0 : rise(inForce, hour);
    }

    int rise(int law, int hour) {
        if (law < 0 || law >= laws.size() || hour < 0 || hour > 47) {
            return VOID;
        }
        for (String line : laws.get(law).split(";")) {
            String[] sides = line.split("\\?");
            if (sides.length == 1 || worth(sides[0], hour) != 0) {
                return Math.min(60, Math.max(-20, worth(sides[sides.length - 1], hour)));
            }
        }
        return 0;
    }

    /** Cuts the text at its last sign of the widest sort outside of ( ). */
    private int worth(String text, int hour) {
        for (String signs : new String[] {"|", "&", "<=>", "+-", "*/%"}) {
            int open = 0;
            for (int at = text.length() - 1; at > 0; at--) {
                char b = text.charAt(at);
                open += b == ')' ? 1 : b == '(' ? -1 : 0;
                if (open == 0 && signs.indexOf(b) >= 0 && "(!-+*/%<=>&|".indexOf(text.charAt(at - 1)) < 0) {
                    return joined(b, worth(text.substring(0, at), hour), worth(text.substring(at + 1), hour));
                }
            }
        }
        switch (text.charAt(0)) {
            case '!': return worth(text.substring(1), hour) == 0 ? 1 : 0;
            case '-': return -worth(text.substring(1), hour);
            case '(': return worth(text.substring(1, text.length() - 1), hour);
            case 'h': return hour;
            case 'c': return hour % 24;
            case 'r': return rain;
            case 'i': return ice;
            default: return Integer.parseInt(text);
        }
    }

    private static int joined(char sign, int a, int b) {
        switch (sign) {
            case '|': return (a != 0) | (b != 0) ? 1 : 0;
            case '&': return (a != 0) & (b != 0) ? 1 : 0;
            case '<': return a < b ? 1 : 0;
            case '=': return a == b ? 1 : 0;
            case '>': return a > b ? 1 : 0;
            case '+': return a + b;
            case '-': return a - b;
            case '*': return a * b;
            case '/': return b == 0 ? 0 : (int) ((long) a / b);
            default: return b == 0 ? 0 : (int) ((long) a % b);
        }
    }

    int force(int law) {
        if (law < -1 || law >= laws.size()) {
            return -2;
        }
        int was = inForce;
        inForce = law;
        return was;
    }

    int sky(int what, int v) {
        if (what < 0 || what > 1 || v < 0 || v > 99) {
            return BAD;
        }
        int was = what == 0 ? rain : ice;
        rain = what == 0 ? v : rain;
        ice = what == 1 ? v : ice;
        return was;
    }

    // ---- people, groups

    int person(int wh, int lp) {
        int[] traits = {wh / 100, wh % 100, lp / 100, lp % 100};
        if (wh < 0 || lp < 0 || traits[0] < 30 || traits[0] > 120 || traits[1] < 10 || traits[1] > 22
            || traits[2] > 9 || traits[3] > 40) {
            return BAD;
        }
        if (people.size() == 8) {
            return FULL;
        }
        people.add(traits);
        return people.size() - 1;
    }

    int set(int person, int what, int v) {
        if (person < 0 || person >= people.size() || what < 0 || what > 1 || v < 0 || v > (what == 0 ? 9 : 40)) {
            return BAD;
        }
        return change(people.get(person), 2 + what, v, new int[] {1, person, 0, 2 + what});
    }

    int of(int person, int what) {
        return person < 0 || person >= people.size() || what < 0 || what > 3 ? BAD : people.get(person)[what];
    }

    private boolean badPh(int ph) {
        return ph < 0 || ph / 100 >= places.size() || ph % 100 > 47;
    }

    /** The people of a group in their order; null, if it is none. */
    private List<Integer> group(int digits) {
        List<Integer> group = new ArrayList<>();
        if (digits < 1) {
            return null;
        }
        for (char digit : String.valueOf(digits).toCharArray()) {
            int person = digit - '1';
            if (person < 0 || person >= people.size() || group.contains(person)) {
                return null;
            }
            group.add(person);
        }
        return group.size() > 5 ? null : group;
    }

    private List<Integer> groupOf(int gf) {
        return gf < 0 || gf % 10 > 3 ? null : group(gf / 10);
    }

    private int alike(int person, int[] water) {
        int[] p = people.get(person);
        int sunk = Math.min(water[0], p[1]);
        return (p[0] + p[3] - p[0] * sunk / p[1]) * (water[2] + p[2]);
    }

    private int[] fares(List<Integer> group, int form, int rank, int[] water) {
        int[] lees = {
            100, new int[] {100, 85, 70, 55, 40}[rank], new int[] {100, 60, 60, 40, 40}[rank], 100,
        };
        int hold = alike(group.get(rank), water);
        if (form == 0) {
            hold += hold / 10;
        }
        if (form == 3) {
            int sum = 0;
            for (int person : group) {
                sum += alike(person, water);
            }
            hold = (hold + sum / group.size()) / 2;
        }
        int height = people.get(group.get(rank))[1];
        int push = Math.min(water[0], height) * water[1] * water[1] * lees[form] / 1000;
        return new int[] {water[0] >= height ? -9999 : hold - push, hold, push};
    }

    int margin(int ph, int gf, int ki, int what) {
        List<Integer> group = groupOf(gf);
        if (badPh(ph) || group == null || ki < 0 || ki / 100 >= group.size()
            || ki % 100 >= places.get(ph / 100).length || what < 0 || what > 2) {
            return VOID;
        }
        return fares(group, gf % 10, ki / 100, water(ph / 100, ki % 100, riseNow(ph % 100)))[what];
    }

    /** LEAST, then FIRST. */
    private int[] crossing(int place, int e, List<Integer> group, int form) {
        int least = Integer.MAX_VALUE;
        int first = NOT;
        for (int i = 0; i < places.get(place).length; i++) {
            for (int rank = 0; rank < group.size(); rank++) {
                int margin = fares(group, form, rank, water(place, i, e))[0];
                least = Math.min(least, margin);
                first = first == NOT && margin < 0 ? 100 * i + rank : first;
            }
        }
        return new int[] {least, first};
    }

    int over(int ph, int gf, int what) {
        List<Integer> group = groupOf(gf);
        if (badPh(ph) || group == null || what < 0 || what > 2) {
            return VOID;
        }
        int[] found = crossing(ph / 100, riseNow(ph % 100), group, gf % 10);
        return what == 0 ? (found[1] == NOT ? 1 : 0) : found[what - 1];
    }

    int order(int ph, int gf, int what) {
        List<Integer> group = groupOf(gf);
        if (badPh(ph) || group == null || what < 0 || what > 1) {
            return VOID;
        }
        int[] best = {0, Integer.MIN_VALUE};
        tryOrders(new ArrayList<>(), group, ph / 100, riseNow(ph % 100), gf % 10, best);
        return best[what];
    }

    private void tryOrders(List<Integer> ahead, List<Integer> all, int place, int e, int form, int[] best) {
        if (ahead.size() == all.size()) {
            int digits = 0;
            for (int person : ahead) {
                digits = digits * 10 + person + 1;
            }
            int least = crossing(place, e, ahead, form)[0];
            if (least > best[1] || least == best[1] && digits < best[0]) {
                best[0] = digits;
                best[1] = least;
            }
            return;
        }
        for (int person : all) {
            if (!ahead.contains(person)) {
                List<Integer> longer = new ArrayList<>(ahead);
                longer.add(person);
                tryOrders(longer, all, place, e, form, best);
            }
        }
    }

    private static boolean dark(int hour) {
        return hour % 24 < 5 || hour % 24 > 19;
    }

    int best(int digits, int fromTo, int what) {
        List<Integer> group = group(digits);
        if (group == null || fromTo < 0 || fromTo / 100 > 47 || fromTo % 100 > 47 || fromTo % 100 < fromTo / 100
            || what < 0 || what > 1) {
            return VOID;
        }
        int[] best = null;
        for (int hour = fromTo % 100; hour >= fromTo / 100; hour--) {
            for (int place = places.size() - 1; place >= 0 && !dark(hour); place--) {
                for (int form = 3; form >= 0; form--) {
                    int least = crossing(place, riseNow(hour), group, form)[0];
                    if (best == null || least >= best[1]) {
                        best = new int[] {1000 * hour + 10 * place + form, least};
                    }
                }
            }
        }
        return best == null ? NOT : best[what];
    }

    int gusts(int ph, int gf, int seed, int ng, int what) {
        List<Integer> group = groupOf(gf);
        int n = ng / 100;
        int g = ng % 100;
        if (badPh(ph) || group == null || n < 1 || n > 50 || g < 1 || g > 20 || what < 0 || what > 1) {
            return BAD;
        }
        int overs = 0;
        int z = seed;
        for (int time = 0; time < n; time++) {
            int fallen = 0;
            for (int i = 0; i < places.get(ph / 100).length; i++) {
                z = z * 1103515245 + 12345;
                int[] water = water(ph / 100, i, riseNow(ph % 100));
                water[1] += (z >>> 8) % g;
                for (int rank = 0; rank < group.size(); rank++) {
                    fallen += fares(group, gf % 10, rank, water)[0] < 0 ? 1 : 0;
                }
            }
            overs += fallen == 0 ? 1 : 0;
        }
        return what == 0 ? overs : belows.get(ph / 100) * (n - overs);
    }

    int await(int ph, int gf) {
        if (badPh(ph) || groupOf(gf) == null) {
            return BAD;
        }
        for (int hour = ph % 100; hour < 48; hour++) {
            if (!dark(hour) && over(ph / 100 * 100 + hour, gf, 0) == 1) {
                return hour;
            }
        }
        return NOT;
    }

    int mustNot(int ph) {
        if (badPh(ph)) {
            return BAD;
        }
        int bits = 0;
        for (int person = 0; person < people.size(); person++) {
            for (int i = 0; i < places.get(ph / 100).length; i++) {
                int[] water = water(ph / 100, i, riseNow(ph % 100));
                int height = people.get(person)[1];
                int push = Math.min(water[0], height) * water[1] * water[1] * 40 / 1000;
                if (water[0] >= height || alike(person, water) - push < 0) {
                    bits |= 1 << person;
                }
            }
        }
        return bits;
    }

    private boolean stand(int place, int i, int hour, List<Integer> group, int form) {
        for (int rank = 0; rank < group.size(); rank++) {
            if (fares(group, form, rank, water(place, i, riseNow(Math.min(47, hour))))[0] < 0) {
                return false;
            }
        }
        return true;
    }

    int midst(int ph, int gf, int t, int what) {
        List<Integer> group = groupOf(gf);
        if (badPh(ph) || group == null || t < 1 || t > 60 || what < 0 || what > 1) {
            return BAD;
        }
        int place = ph / 100;
        int cells = places.get(place).length;
        int i = 0;
        while (i < cells && stand(place, i, ph % 100 + i * t / 60, group, gf % 10)) {
            i++;
        }
        if (what == 0) {
            return i;
        }
        boolean back = true;
        for (int step = 0; step < i && i < cells; step++) {
            back &= stand(place, i - 1 - step, ph % 100 + (i + step) * t / 60, group, gf % 10);
        }
        return i == cells ? NOT : back ? 1 : 0;
    }

    int line(int place, int gf) {
        List<Integer> group = groupOf(gf);
        if (place < 0 || place >= places.size() || group == null) {
            return VOID;
        }
        int line = -100;
        for (int e = -20; e <= 60; e++) {
            line = crossing(place, e, group, gf % 10)[1] == NOT ? e : line;
        }
        return line;
    }

    int wall(int digits, int what) {
        if (group(digits) == null || what < 0 || what > 1) {
            return VOID;
        }
        int[] best = {NOT, -100};
        for (int n = 0; n < 4 * places.size(); n++) {
            int line = line(n / 4, 10 * digits + n % 4);
            if (line > best[1]) {
                best = new int[] {10 * (n / 4) + n % 4, line};
            }
        }
        return best[what];
    }

    int roped(int ph, int gf, int ki) {
        List<Integer> group = groupOf(gf);
        if (badPh(ph) || group == null || ki < 0 || ki / 100 >= group.size()
            || ki % 100 >= places.get(ph / 100).length) {
            return BAD;
        }
        int[] water = water(ph / 100, ki % 100, riseNow(ph % 100));
        boolean[] fallen = new boolean[group.size() + 2];
        fallen[ki / 100 + 1] = true;
        boolean more = true;
        while (more) {
            more = false;
            boolean[] then = fallen.clone();
            for (int rank = 0; rank < group.size(); rank++) {
                int pull = fallen[rank] ? fares(group, gf % 10, rank - 1, water)[2] / 2 : 0;
                pull += fallen[rank + 2] ? fares(group, gf % 10, rank + 1, water)[2] / 2 : 0;
                if (!fallen[rank + 1] && fares(group, gf % 10, rank, water)[0] < pull) {
                    then[rank + 1] = true;
                    more = true;
                }
            }
            fallen = then;
        }
        int bits = 0;
        for (int rank = 0; rank < group.size(); rank++) {
            bits += fallen[rank + 1] ? 1 << rank : 0;
        }
        return bits;
    }

    // ---- signs

    int stick(int ph, int yb) {
        int y = yb / 10;
        int b = yb % 10;
        if (badPh(ph) || yb < 0 || y < 1 || y > 99 || b < 1) {
            return BAD;
        }
        int bits = 0;
        for (int i = 0; i < places.get(ph / 100).length; i++) {
            int off = water(ph / 100, i, riseNow(ph % 100))[1] - 10 * y / b;
            bits += off >= -2 && off <= 2 ? 1 << i : 0;
        }
        return bits;
    }

    int notch(int hour, int rise) {
        if (hour < 0 || hour > 47 || rise < -20 || rise > 60
            || !notches.isEmpty() && hour <= notches.get(notches.size() - 1)[0]) {
            return BAD;
        }
        if (notches.size() == 20) {
            return FULL;
        }
        notches.add(new int[] {hour, rise});
        return notches.size() - 1;
    }

    int notches(int shelf, int i, int n) {
        if (shelf < 0 || shelf > 5 || n < 1 || n > 20) {
            return BAD;
        }
        if (shelves[shelf] != null && !(shelves[shelf] instanceof byte[])) {
            return -12;
        }
        int came = 0;
        try {
            byte[] row = (byte[]) shelves[shelf];
            while (came < n && notch(row[i + 2 * came], row[i + 2 * came + 1]) >= 0) {
                came++;
            }
        } catch (NullPointerException | ArrayIndexOutOfBoundsException e) {
            return came;
        }
        return came;
    }

    int off(int law) {
        if (law < 0 || law >= laws.size()) {
            return BAD;
        }
        return notches.isEmpty() ? STATE : notches.stream().mapToInt(n -> Math.abs(rise(law, n[0]) - n[1])).sum();
    }

    int fit() {
        if (laws.isEmpty() || notches.isEmpty()) {
            return STATE;
        }
        int fit = laws.size() - 1;
        for (int law = fit; law >= 0; law--) {
            fit = off(law) <= off(fit) ? law : fit;
        }
        return fit;
    }

    int undo() {
        return turn(changesDone, changesUndone, 4);
    }

    int redo() {
        return turn(changesUndone, changesDone, 5);
    }

    private int turn(List<int[]> from, List<int[]> to, int which) {
        if (from.isEmpty()) {
            return STATE;
        }
        int[] change = from.remove(from.size() - 1);
        int[] row = change[0] == 0 ? places.get(change[1])[change[2]] : people.get(change[1]);
        row[change[3]] = change[which];
        to.add(change);
        return from.size();
    }

    // ---- acts, shelves

    private interface Stands {
        int number();

        void runs(int body);

        default int stands(int x) {
            runs(1);
            return x + number();
        }
    }

    private interface Sinks {
        int steps(int x);

        int sweeps(int x);

        void runs(int body);

        default int sinks(int x) {
            runs(2);
            return steps(x) - sweeps(1);
        }
    }

    private static class Form implements Stands, Sinks {
        private final int number;
        private final List<Integer> ran;

        Form(int number, List<Integer> ran) {
            this.number = number;
            this.ran = ran;
        }

        @Override
        public int number() {
            return number;
        }

        @Override
        public void runs(int body) {
            ran.add(body);
        }

        @Override
        public int steps(int x) {
            runs(10);
            return stands(x) * 2;
        }

        @Override
        public int sweeps(int x) {
            runs(11);
            return x ^ number;
        }

        int kind() {
            List<Class<?>> kinds = List.of(Form.class, Alone.class, Rowed.class, Wedged.class, Lined.class,
                Roped.class, Packed.class, Split.class);
            return kinds.indexOf(getClass());
        }
    }

    private static class Alone extends Form {
        Alone(int number, List<Integer> ran) {
            super(number, ran);
        }

        @Override
        public int stands(int x) {
            runs(20);
            return super.stands(x) + 3;
        }
    }

    private static class Rowed extends Form {
        Rowed(int number, List<Integer> ran) {
            super(number, ran);
        }

        @Override
        public int steps(int x) {
            runs(30);
            return -super.steps(x);
        }
    }

    private static final class Wedged extends Rowed {
        Wedged(int number, List<Integer> ran) {
            super(number, ran);
        }

        @Override
        public int sweeps(int x) {
            runs(40);
            return super.sweeps(x) * 3;
        }

        @Override
        public int steps(int x) {
            runs(41);
            return super.steps(x + 1);
        }
    }

    private static class Lined extends Alone {
        Lined(int number, List<Integer> ran) {
            super(number, ran);
        }

        @Override
        public int sinks(int x) {
            runs(50);
            return super.sinks(x) ^ 5;
        }
    }

    private static final class Roped extends Lined {
        Roped(int number, List<Integer> ran) {
            super(number, ran);
        }

        @Override
        public int sweeps(int x) {
            runs(60);
            return super.sweeps(x) - stands(2);
        }

        @Override
        public int sinks(int x) {
            runs(61);
            return super.sinks(x) + 1;
        }
    }

    private static class Packed extends Form {
        Packed(int number, List<Integer> ran) {
            super(number, ran);
        }

        @Override
        public int stands(int x) {
            runs(70);
            return super.stands(x) * 2;
        }
    }

    private static final class Split extends Packed {
        Split(int number, List<Integer> ran) {
            super(number, ran);
        }

        @Override
        public int steps(int x) {
            runs(80);
            return super.steps(x) + sweeps(2);
        }

        @Override
        public int stands(int x) {
            runs(81);
            return super.stands(x) - 1;
        }
    }

    private Form madeOf(int kind) {
        int n = bodies.size();
        switch (kind) {
            case 0: return new Form(n, ran);
            case 1: return new Alone(n, ran);
            case 2: return new Rowed(n, ran);
            case 3: return new Wedged(n, ran);
            case 4: return new Lined(n, ran);
            case 5: return new Roped(n, ran);
            case 6: return new Packed(n, ran);
            default: return new Split(n, ran);
        }
    }

    int body(int kind) {
        if (kind < 0 || kind > 7) {
            return BAD;
        }
        if (bodies.size() == 50) {
            return FULL;
        }
        bodies.add(madeOf(kind));
        return bodies.size() - 1;
    }

    int act(int body, int act, int x) {
        ran.clear();
        if (body < 0 || body >= bodies.size()) {
            return 0;
        }
        Form form = bodies.get(body);
        switch (act) {
            case 0: return form.stands(x);
            case 1: return form.steps(x);
            case 2: return form.sweeps(x);
            case 3: return form.sinks(x);
            default: return 0;
        }
    }

    int trace(int i) {
        return i < 0 || i >= ran.size() || i >= 24 ? BAD : ran.get(i);
    }

    int keep(int shelf, int body) {
        if (shelf < 0 || shelf > 5 || body < -1 || body >= bodies.size()) {
            return BAD;
        }
        shelves[shelf] = body < 0 ? null : bodies.get(body);
        return 1;
    }

    int row(int shelf, int sort, int n) {
        if (shelf < 0 || shelf > 5 || sort < 0 || sort > 4 || n > 60) {
            return BAD;
        }
        try {
            switch (sort) {
                case 0: shelves[shelf] = new byte[n]; break;
                case 1: shelves[shelf] = new short[n]; break;
                case 2: shelves[shelf] = new int[n]; break;
                case 3: shelves[shelf] = new long[n]; break;
                default: shelves[shelf] = new boolean[n];
            }
            return 1;
        } catch (NegativeArraySizeException e) {
            return -14;
        }
    }

    int put(int shelf, int i, long v) {
        if (shelf < 0 || shelf > 5) {
            return BAD;
        }
        Object row = shelves[shelf];
        try {
            if (row == null) {
                return -11;
            } else if (row instanceof byte[]) {
                ((byte[]) row)[i] = (byte) v;
            } else if (row instanceof short[]) {
                ((short[]) row)[i] = (short) v;
            } else if (row instanceof int[]) {
                ((int[]) row)[i] = (int) v;
            } else if (row instanceof long[]) {
                ((long[]) row)[i] = v;
            } else {
                ((boolean[]) row)[i] = v != 0;
            }
            return 1;
        } catch (ClassCastException e) {
            return -12;
        } catch (ArrayIndexOutOfBoundsException e) {
            return -13;
        }
    }

    long element(int shelf, int i) {
        if (shelf < 0 || shelf > 5 || shelves[shelf] == null || shelves[shelf] instanceof Form) {
            return Long.MIN_VALUE;
        }
        try {
            return shelves[shelf] instanceof boolean[]
                ? (((boolean[]) shelves[shelf])[i] ? 1 : 0) : java.lang.reflect.Array.getLong(shelves[shelf], i);
        } catch (ArrayIndexOutOfBoundsException e) {
            return Long.MIN_VALUE;
        }
    }

    int shift(int shelf, int i, int other, int j, int n) {
        if (shelf < 0 || shelf > 5 || other < 0 || other > 5) {
            return BAD;
        }
        try {
            System.arraycopy(shelves[shelf], i, shelves[other], j, n);
            return n;
        } catch (NullPointerException e) {
            return -11;
        } catch (ArrayStoreException e) {
            return -12;
        } catch (IndexOutOfBoundsException e) {
            return -13;
        }
    }

    int taken(int shelf, int k) {
        if (shelf < 0 || shelf > 5 || k < 0 || k > 7) {
            return BAD;
        }
        List<Class<? extends Form>> kinds = List.of(Form.class, Alone.class, Rowed.class, Wedged.class, Lined.class,
            Roped.class, Packed.class, Split.class);
        if (shelves[shelf] == null) {
            return -11;
        }
        try {
            return kinds.get(k).cast(shelves[shelf]).kind();
        } catch (ClassCastException e) {
            return -12;
        }
    }

    int count(int what) {
        int[] counts = {
            places.size(), laws.size(), people.size(), notches.size(), tape.length(), changesDone.size(),
            bodies.size(), ran.size(),
        };
        return what < 0 || what >= counts.length ? BAD : counts[what];
    }
}
