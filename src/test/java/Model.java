import java.time.DayOfWeek;
import java.time.LocalDate;
import java.time.temporal.ChronoUnit;
import java.time.temporal.TemporalAdjusters;
import java.util.ArrayList;
import java.util.Arrays;
import java.util.LinkedHashMap;
import java.util.List;
import java.util.Map;
import java.util.function.IntFunction;

/**
 * The document once more, written without a thought of speed and with the Java library: each question looks at
 * all CHOICES, a phrase is read by trying all rules, days are those of java.time. RandomRunsTest holds the
 * program against it. What throws is answered by null.
 */
final class Model {
    record Reading(int from, int to, int grain, int weight) { }

    record Order(int kind, int x, int y) { }

    static final LocalDate DAY_0 = LocalDate.of(2000, 1, 1);
    static final List<String> UNITS = List.of("day", "week", "month", "year");
    static final List<String> DAY_NAMES = List.of("mon", "tue", "wed", "thu", "fri", "sat", "sun");
    static final List<String> MONTH_NAMES = List.of("jan", "feb", "mar", "apr", "may", "jun", "jul", "aug", "sep",
        "oct", "nov", "dec");

    /** All that term 1 tells of. */
    static final class State {
        int ref = 3000;
        Map<Integer, List<Reading>> events = new LinkedHashMap<>();
        Map<Integer, boolean[]> in = new LinkedHashMap<>();
        List<Order> orders = new ArrayList<>();

        State copy() {
            State s = new State();
            s.ref = ref;
            s.events.putAll(events);
            in.forEach((e, b) -> s.in.put(e, b.clone()));
            s.orders.addAll(orders);
            return s;
        }
    }

    State s = new State();
    StringBuilder text = new StringBuilder();
    List<Long> row = new ArrayList<>();
    List<State> past = new ArrayList<>();
    State[] kept = new State[2];

    // ---- days

    static LocalDate date(long d) {
        return DAY_0.plusDays(d);
    }

    static int dayOf(LocalDate d) {
        return (int) ChronoUnit.DAYS.between(DAY_0, d);
    }

    static boolean isDay(int d) {
        return 0 <= d && d <= 9999;
    }

    static int move(int d, int unit, int n) {
        LocalDate x = date(d);
        return dayOf(switch (unit) {
            case 0 -> x.plusDays(n);
            case 1 -> x.plusWeeks(n);
            case 2 -> x.plusMonths(n);
            default -> x.plusYears(n);
        });
    }

    int day(int y, int m, int n) {
        if (y < 1900 || y > 2100 || m < 1 || m > 12 || n < 1 || n > LocalDate.of(y, m, 1).lengthOfMonth()) {
            return -1;
        }
        int d = dayOf(LocalDate.of(y, m, n));
        return isDay(d) ? d : -1;
    }

    int dateOf(int d) {
        if (!isDay(d)) {
            return -1;
        }
        LocalDate x = date(d);
        tell(x.getMonthValue(), x.getDayOfMonth(), x.getDayOfWeek().getValue() - 1);
        return x.getYear();
    }

    int moved(int d, int unit, int n) {
        if (!isDay(d) || unit < 0 || unit > 3 || n < -9999 || n > 9999) {
            return -1;
        }
        int to = move(d, unit, n);
        return isDay(to) ? to : -2;
    }

    // ---- phrases

    record Word(String word, int begin) { }

    record Parsed<T>(int next, T what) { }

    interface Meaning extends IntFunction<List<Reading>> { }

    List<Word> words;
    int furthest;

    static List<Word> split(String t) {
        List<Word> all = new ArrayList<>();
        int p = 0;
        while (true) {
            while (p < t.length() && t.charAt(p) == ' ') {
                p++;
            }
            if (p == t.length()) {
                all.add(new Word("", p));
                return all;
            }
            String rest = t.substring(p);
            String word = rest.replaceFirst("(?s)^([a-z]+|[0-9]+).*$", "$1");
            boolean isWord = word.matches("[a-z]+|[0-9]+");
            if (!isWord || Character.isDigit(word.charAt(0)) && word.length() > 4) {
                all.add(new Word("?", isWord ? p + 4 : p));
                return all;
            }
            all.add(new Word(word, p));
            p += word.length();
        }
    }

    /** The word at i, if it is one of those; else i may be where the text can't go on. */
    boolean is(int i, List<String> those) {
        if (i < words.size() && those.contains(words.get(i).word())) {
            return true;
        }
        furthest = Math.max(furthest, Math.min(i, words.size() - 1));
        return false;
    }

    boolean is(int i, String one) {
        return is(i, List.of(one));
    }

    int number(int i, int least, int most) {
        if (i < words.size() && words.get(i).word().matches("[0-9]+")) {
            int n = Integer.parseInt(words.get(i).word());
            if (least <= n && n <= most) {
                return n;
            }
        }
        furthest = Math.max(furthest, Math.min(i, words.size() - 1));
        return -1;
    }

    static Reading of(LocalDate from, LocalDate to, int grain, int weight) {
        return new Reading(dayOf(from), dayOf(to), grain, weight);
    }

    static Reading of(LocalDate d, int weight) {
        return of(d, d, 0, weight);
    }

    static Reading whole(LocalDate d, int unit, int weight) {
        return switch (unit) {
            case 0 -> of(d, weight);
            case 1 -> {
                LocalDate m = d.with(TemporalAdjusters.previousOrSame(DayOfWeek.MONDAY));
                yield of(m, m.plusDays(6), 1, weight);
            }
            case 2 -> of(d.withDayOfMonth(1), d.with(TemporalAdjusters.lastDayOfMonth()), 2, weight);
            default -> of(d.withDayOfYear(1), d.with(TemporalAdjusters.lastDayOfYear()), 3, weight);
        };
    }

    static List<Reading> clean(List<Reading> all) {
        return all.stream().filter(x -> isDay(x.from()) && isDay(x.to())).toList();
    }

    static List<Reading> merged(List<Reading> all) {
        List<Reading> out = new ArrayList<>();
        for (Reading x : all) {
            boolean there = false;
            for (int i = 0; i < out.size(); i++) {
                Reading y = out.get(i);
                if (y.from() == x.from() && y.to() == x.to()) {
                    out.set(i, new Reading(x.from(), x.to(), Math.min(x.grain(), y.grain()),
                        Math.max(x.weight(), y.weight())));
                    there = true;
                }
            }
            if (!there) {
                out.add(x);
            }
        }
        return out;
    }

    List<Parsed<Meaning>> spans(int i, int depth) {
        List<Parsed<Meaning>> all = new ArrayList<>();
        if (depth > 60) {
            return all;
        }
        spansByNumber(i, depth, all);
        spansOfSpans(i, depth, all);
        for (String w : List.of("today", "tomorrow", "yesterday")) {
            if (is(i, w)) {
                int by = w.equals("today") ? 0 : w.equals("tomorrow") ? 1 : -1;
                all.add(new Parsed<>(i + 1, r -> List.of(of(date(r).plusDays(by), 3))));
            }
        }
        for (String w : List.of("this", "next", "last")) {
            int by = w.equals("this") ? 0 : w.equals("next") ? 1 : -1;
            if (is(i, w) && is(i + 1, UNITS)) {
                int unit = UNITS.indexOf(words.get(i + 1).word());
                all.add(new Parsed<>(i + 2, r -> relativeUnit(date(r), unit, by)));
            }
            if (is(i, w) && is(i + 1, DAY_NAMES)) {
                DayOfWeek name = DayOfWeek.of(DAY_NAMES.indexOf(words.get(i + 1).word()) + 1);
                all.add(new Parsed<>(i + 2, r -> relativeName(date(r), name, by)));
            }
        }
        if (is(i, DAY_NAMES)) {
            DayOfWeek name = DayOfWeek.of(DAY_NAMES.indexOf(words.get(i).word()) + 1);
            all.add(new Parsed<>(i + 1, r -> List.of(of(date(r).with(TemporalAdjusters.nextOrSame(name)), 3),
                of(date(r).with(TemporalAdjusters.previous(name)), 1))));
            if (is(i + 1, "after") && is(i + 2, "next")) {
                all.add(new Parsed<>(i + 3, r -> List.of(
                    of(date(r).with(TemporalAdjusters.next(name)).plusWeeks(1), 3),
                    of(date(r).plusWeeks(2).with(TemporalAdjusters.previousOrSame(DayOfWeek.MONDAY))
                        .plusDays(name.getValue() - 1), 2))));
            }
        }
        spansByMonth(i, all);
        return all;
    }

    void spansByNumber(int i, int depth, List<Parsed<Meaning>> all) {
        int year = number(i, 2000, 2027);
        if (year >= 0) {
            all.add(new Parsed<>(i + 1, r -> List.of(whole(LocalDate.of(year, 6, 6), 3, 3))));
        }
        int n = number(i, 1, 99);
        if (n >= 0 && is(i + 1, UNITS)) {
            int unit = UNITS.indexOf(words.get(i + 1).word());
            if (is(i + 2, "ago")) {
                all.add(new Parsed<>(i + 3, r -> relativeMove(r, unit, -n)));
            }
            for (String w : List.of("after", "before")) {
                if (is(i + 2, w)) {
                    boolean after = w.equals("after");
                    for (Parsed<Meaning> p : spans(i + 3, depth + 1)) {
                        all.add(new Parsed<>(p.next(), r -> clean(p.what().apply(r)).stream().map(x -> {
                            int d = after ? move(x.to(), unit, n) : move(x.from(), unit, -n);
                            return new Reading(d, d, 0, x.weight());
                        }).toList()));
                    }
                }
            }
        }
        if (is(i, "in")) {
            int m = number(i + 1, 1, 99);
            if (m >= 0 && is(i + 2, UNITS)) {
                int unit = UNITS.indexOf(words.get(i + 2).word());
                all.add(new Parsed<>(i + 3, r -> relativeMove(r, unit, m)));
            }
        }
    }

    void spansOfSpans(int i, int depth, List<Parsed<Meaning>> all) {
        for (String w : List.of("early", "mid", "late")) {
            if (is(i, w)) {
                for (Parsed<Meaning> p : spans(i + 1, depth + 1)) {
                    all.add(new Parsed<>(p.next(), r -> thirds(clean(p.what().apply(r)), w)));
                }
            }
        }
        for (String w : List.of("first", "last")) {
            if (is(i, w) && is(i + 1, DAY_NAMES) && is(i + 2, "of")) {
                DayOfWeek name = DayOfWeek.of(DAY_NAMES.indexOf(words.get(i + 1).word()) + 1);
                for (Parsed<Meaning> p : spans(i + 3, depth + 1)) {
                    all.add(new Parsed<>(p.next(), r -> namesIn(clean(p.what().apply(r)), name, w.equals("last"))));
                }
            }
        }
    }

    void spansByMonth(int i, List<Parsed<Meaning>> all) {
        if (!is(i, MONTH_NAMES)) {
            return;
        }
        int month = MONTH_NAMES.indexOf(words.get(i).word()) + 1;
        all.add(new Parsed<>(i + 1, r -> monthName(r, month)));
        int n = number(i + 1, 1, 31);
        if (n >= 0) {
            all.add(new Parsed<>(i + 2, r -> monthAndN(r, month, n)));
            int year = number(i + 2, 2000, 2027);
            if (year >= 0) {
                all.add(new Parsed<>(i + 3, r -> n > LocalDate.of(year, month, 1).lengthOfMonth() ? List.of()
                    : List.of(of(LocalDate.of(year, month, n), 3))));
            }
        }
    }

    static List<Reading> relativeUnit(LocalDate r, int unit, int by) {
        LocalDate at = switch (unit) {
            case 0 -> r.plusDays(by);
            case 1 -> r.plusWeeks(by);
            case 2 -> r.withDayOfMonth(1).plusMonths(by);
            default -> r.withDayOfYear(1).plusYears(by);
        };
        List<Reading> all = new ArrayList<>(List.of(whole(at, unit, 3)));
        if (unit == 1 && by == 1) {
            all.add(of(r.plusDays(1), r.plusDays(7), 1, 1));
        }
        if (unit == 1 && by == -1) {
            all.add(of(r.minusDays(7), r.minusDays(1), 1, 1));
        }
        return all;
    }

    static List<Reading> relativeName(LocalDate r, DayOfWeek name, int by) {
        LocalDate monday = r.with(TemporalAdjusters.previousOrSame(DayOfWeek.MONDAY));
        LocalDate inWeek = monday.plusWeeks(by).plusDays(name.getValue() - 1);
        return switch (by) {
            case 0 -> List.of(of(inWeek, 3));
            case 1 -> List.of(of(inWeek, 3), of(r.with(TemporalAdjusters.next(name)), 2));
            default -> List.of(of(r.with(TemporalAdjusters.previous(name)), 3), of(inWeek, 2));
        };
    }

    static List<Reading> relativeMove(int r, int unit, int n) {
        LocalDate d = date(move(r, unit, n));
        return unit == 0 ? List.of(of(d, 3)) : List.of(of(d, 3), whole(d, unit, 1));
    }

    static List<Reading> thirds(List<Reading> all, String which) {
        List<Reading> out = new ArrayList<>();
        for (Reading x : all) {
            int days = x.to() - x.from() + 1;
            int third = (int) Math.floor(days / 3.0);
            if (days < 3) {
                continue;
            }
            int from = which.equals("early") ? x.from() : which.equals("mid") ? x.from() + third : x.to() + 1 - third;
            int to = which.equals("early") ? x.from() + third - 1 : which.equals("mid") ? x.to() - third : x.to();
            out.add(new Reading(from, to, x.grain(), x.weight()));
        }
        return out;
    }

    static List<Reading> namesIn(List<Reading> all, DayOfWeek name, boolean last) {
        List<Reading> out = new ArrayList<>();
        for (Reading x : all) {
            List<Integer> days = new ArrayList<>();
            for (int d = x.from(); d <= x.to(); d++) {
                if (date(d).getDayOfWeek() == name) {
                    days.add(d);
                }
            }
            if (!days.isEmpty()) {
                int d = days.get(last ? days.size() - 1 : 0);
                out.add(new Reading(d, d, 0, x.weight()));
            }
        }
        return out;
    }

    static List<Reading> monthName(int r, int month) {
        Reading first = null;
        Reading last = null;
        for (int y = 1990; y < 2040; y++) {
            Reading x = whole(LocalDate.of(y, month, 1), 2, 3);
            if (first == null && x.to() >= r) {
                first = x;
            }
            if (x.from() < r) {
                last = new Reading(x.from(), x.to(), 2, 2);
            }
        }
        return List.of(first, last);
    }

    static List<Reading> monthAndN(int r, int month, int n) {
        List<Reading> out = new ArrayList<>();
        Reading last = null;
        for (int y = 1980; y < 2060; y++) {
            if (n > LocalDate.of(y, month, 1).lengthOfMonth()) {
                continue;
            }
            Reading x = of(LocalDate.of(y, month, n), 3);
            if (out.isEmpty() && x.from() >= r) {
                out.add(x);
            }
            if (x.from() < r) {
                last = new Reading(x.from(), x.to(), 0, 2);
            }
        }
        if (last != null) {
            out.add(last);
        }
        return out;
    }

    List<Parsed<Meaning>> parts(int i) {
        List<Parsed<Meaning>> all = new ArrayList<>();
        for (Parsed<Meaning> a : spans(i, 0)) {
            all.add(a);
            if (is(a.next(), "to")) {
                for (Parsed<Meaning> b : spans(a.next() + 1, 0)) {
                    all.add(new Parsed<>(b.next(), r -> {
                        List<Reading> out = new ArrayList<>();
                        for (Reading x : clean(a.what().apply(r))) {
                            for (Reading y : clean(b.what().apply(r))) {
                                if (x.from() <= y.to()) {
                                    out.add(new Reading(x.from(), y.to(), Math.max(x.grain(), y.grain()),
                                        Math.min(x.weight(), y.weight())));
                                }
                            }
                        }
                        return out;
                    }));
                }
            }
        }
        return all;
    }

    /** The phrase, or null: then the text can't go on at furthest. */
    Meaning phrase(String t) {
        words = split(t);
        furthest = 0;
        List<Parsed<Meaning>> done = new ArrayList<>();
        List<Parsed<Meaning>> open = new ArrayList<>(parts(0));
        while (!open.isEmpty()) {
            List<Parsed<Meaning>> next = new ArrayList<>();
            for (Parsed<Meaning> a : open) {
                if (is(a.next(), "")) {
                    done.add(a);
                }
                if (is(a.next(), "or")) {
                    for (Parsed<Meaning> b : parts(a.next() + 1)) {
                        next.add(new Parsed<>(b.next(), r -> {
                            List<Reading> out = new ArrayList<>(a.what().apply(r));
                            out.addAll(b.what().apply(r));
                            return out;
                        }));
                    }
                }
            }
            open = next;
        }
        if (done.size() > 1) {
            throw new IllegalStateException("read in two ways: " + t);
        }
        return done.isEmpty() ? null : done.get(0).what();
    }

    // ---- texts

    int sign(int v) {
        if (text.length() + 4 > 80) {
            return -1;
        }
        for (int k = 24; k >= 0; k -= 8) {
            text.append((char) (v >> k & 255));
        }
        return text.length();
    }

    boolean end(int n) {
        if (n < 0 || n > text.length()) {
            return false;
        }
        text.setLength(n);
        return true;
    }

    String takeText() {
        String t = text.toString();
        text.setLength(0);
        return t;
    }

    int tells(int e, int by) {
        String t = takeText();
        if (e < 0 || e > 5 || by != -1 && (by < 0 || by > 5 || by == e || !s.events.containsKey(by))) {
            return -1;
        }
        Meaning m = phrase(t);
        if (m == null) {
            return -1 - words.get(furthest).begin();
        }
        List<Reading> all = new ArrayList<>();
        if (by == -1) {
            all.addAll(clean(m.apply(s.ref)));
        } else {
            for (int i = 0; i < s.events.get(by).size(); i++) {
                Reading from = s.events.get(by).get(i);
                if (s.in.get(by)[i]) {
                    for (Reading x : clean(m.apply(from.from()))) {
                        all.add(new Reading(x.from(), x.to(), x.grain(), Math.min(x.weight(), from.weight())));
                    }
                }
            }
        }
        all = merged(all);
        if (all.isEmpty()) {
            return -200;
        }
        if (all.size() > 6) {
            return -300;
        }
        record();
        s.events.put(e, all);
        boolean[] in = new boolean[all.size()];
        Arrays.fill(in, true);
        s.in.put(e, in);
        return all.size();
    }

    int means(int d) {
        String t = takeText();
        if (!isDay(d)) {
            return -1;
        }
        Meaning m = phrase(t);
        if (m == null) {
            return -1 - words.get(furthest).begin();
        }
        List<Reading> all = merged(clean(m.apply(d)));
        if (all.isEmpty()) {
            return -200;
        }
        if (all.size() > 6) {
            return -300;
        }
        row.clear();
        for (Reading x : all) {
            row.addAll(List.of((long) x.from(), (long) x.to(), (long) x.grain(), (long) x.weight()));
        }
        return all.size();
    }

    // ---- choices

    static boolean holds(Order o, Reading x, Reading y) {
        boolean together = false;
        boolean inside = true;
        for (int d = x.from(); d <= x.to(); d++) {
            boolean has = y.from() <= d && d <= y.to();
            together |= has;
            inside &= has;
        }
        return switch (o.kind()) {
            case 0 -> x.to() < y.from();
            case 1 -> together;
            case 2 -> inside;
            case 3 -> x.from() == y.from();
            default -> together || x.to() < y.from() && y.from() - x.to() <= 7
                || y.to() < x.from() && x.from() - y.to() <= 7;
        };
    }

    /** For each ORDER, pair of READINGS: whether it holds; made once for all CHOICES of a state. */
    static boolean[][][] table(State s) {
        boolean[][][] t = new boolean[s.orders.size()][6][6];
        for (int o = 0; o < t.length; o++) {
            Order order = s.orders.get(o);
            for (int i = 0; i < 6; i++) {
                for (int k = 0; k < 6; k++) {
                    List<Reading> xs = s.events.get(order.x());
                    List<Reading> ys = s.events.get(order.y());
                    t[o][i][k] = xs == null || ys == null
                        || i < xs.size() && k < ys.size() && holds(order, xs.get(i), ys.get(k));
                }
            }
        }
        return t;
    }

    static List<int[]> choices(State s) {
        List<int[]> all = new ArrayList<>();
        if (s.events.isEmpty()) {
            return all;
        }
        boolean[][][] table = table(s);
        int[] c = new int[6];
        go(s, table, c, 0, all);
        return all;
    }

    private static void go(State s, boolean[][][] table, int[] c, int e, List<int[]> all) {
        if (e == 6) {
            for (int o = 0; o < table.length; o++) {
                Order order = s.orders.get(o);
                if (s.events.containsKey(order.x()) && s.events.containsKey(order.y())
                    && !table[o][c[order.x()]][c[order.y()]]) {
                    return;
                }
            }
            all.add(c.clone());
            return;
        }
        if (!s.events.containsKey(e)) {
            c[e] = -1;
            go(s, table, c, e + 1, all);
            return;
        }
        for (int i = 0; i < s.events.get(e).size(); i++) {
            if (s.in.get(e)[i]) {
                c[e] = i;
                go(s, table, c, e + 1, all);
            }
        }
    }

    static int worth(State s, int[] c) {
        int w = 0;
        for (int e = 0; e < 6; e++) {
            w += c[e] < 0 ? 0 : s.events.get(e).get(c[e]).weight();
        }
        return w;
    }

    /** With each READING: how many CHOICES. */
    static int[][] with(List<int[]> all) {
        int[][] w = new int[6][6];
        for (int[] c : all) {
            for (int e = 0; e < 6; e++) {
                if (c[e] >= 0) {
                    w[e][c[e]]++;
                }
            }
        }
        return w;
    }

    static int left(int[][] w, int e) {
        int bits = 0;
        for (int i = 0; i < 6; i++) {
            bits |= w[e][i] > 0 ? 1 << i : 0;
        }
        return bits;
    }

    static int left(int[][] w) {
        int n = 0;
        for (int e = 0; e < 6; e++) {
            n += Integer.bitCount(left(w, e));
        }
        return n;
    }

    static int[] best(State s, List<int[]> all) {
        int[] best = null;
        for (int[] c : all) {
            if (best == null || worth(s, c) > worth(s, best)) {
                best = c;
            }
        }
        return best;
    }

    int leftBits(int e) {
        return left(with(choices(s)), e);
    }

    void tell(long... numbers) {
        row.clear();
        for (long n : numbers) {
            row.add(n);
        }
    }

    void tellChoice(int[] c) {
        tell(c[0], c[1], c[2], c[3], c[4], c[5]);
    }

    int readings(int e) {
        if (e < 0 || e > 5) {
            return -1;
        }
        if (!s.events.containsKey(e)) {
            return -2;
        }
        int in = 0;
        for (int i = 0; i < s.in.get(e).length; i++) {
            in |= s.in.get(e)[i] ? 1 << i : 0;
        }
        tell(in, leftBits(e));
        return s.events.get(e).size();
    }

    Long reading(int e, int i, int what) {
        if (!s.events.containsKey(e) || i < 0 || i >= s.events.get(e).size() || what < 0 || what > 4) {
            return null;
        }
        Reading x = s.events.get(e).get(i);
        return (long) switch (what) {
            case 0 -> x.from();
            case 1 -> x.to();
            case 2 -> x.grain();
            case 3 -> x.weight();
            default -> s.in.get(e)[i] ? 1 : 0;
        };
    }

    List<Reading> leftOf(int e, int[][] w) {
        List<Reading> out = new ArrayList<>();
        for (int i = 0; i < 6; i++) {
            if (w[e][i] > 0) {
                out.add(s.events.get(e).get(i));
            }
        }
        return out;
    }

    int hull(int e) {
        if (e < 0 || e > 5) {
            return -1;
        }
        List<Reading> all = leftOf(e, with(choices(s)));
        if (all.isEmpty()) {
            return -2;
        }
        int from = all.stream().mapToInt(Reading::from).min().getAsInt();
        int to = all.stream().mapToInt(Reading::to).max().getAsInt();
        tell(from, to);
        return to - from + 1;
    }

    static int addOrder(State s, int kind, int x, int y, int most) {
        if (kind < 0 || kind > 4 || x < 0 || x > 5 || y < 0 || y > 5 || x == y) {
            return -1;
        }
        Order o = new Order(kind, x, y);
        if (s.orders.contains(o)) {
            return -2;
        }
        if (s.orders.size() >= most) {
            return -3;
        }
        s.orders.add(o);
        return s.orders.size() - 1;
    }

    int told(int i) {
        if (i < 0 || i >= s.orders.size()) {
            return -1;
        }
        Order o = s.orders.get(i);
        int pairs = 0;
        if (s.events.containsKey(o.x()) && s.events.containsKey(o.y())) {
            for (int a = 0; a < s.events.get(o.x()).size(); a++) {
                for (int b = 0; b < s.events.get(o.y()).size(); b++) {
                    pairs += s.in.get(o.x())[a] && s.in.get(o.y())[b]
                        && holds(o, s.events.get(o.x()).get(a), s.events.get(o.y()).get(b)) ? 1 : 0;
                }
            }
        }
        tell(choices(s).isEmpty() ? 2 : 1, pairs);
        return 100 * o.kind() + 10 * o.x() + o.y();
    }

    int choices() {
        State free = s.copy();
        free.orders.clear();
        tell(choices(free).size());
        return choices(s).size();
    }

    int best() {
        int[] best = best(s, choices(s));
        if (best == null) {
            return -2;
        }
        tellChoice(best);
        return worth(s, best);
    }

    int other() {
        List<int[]> all = choices(s);
        int[] best = best(s, all);
        int[][] w = with(all);
        List<int[]> others = new ArrayList<>();
        for (int[] c : all) {
            boolean differs = c != best;
            for (int e = 0; e < 6; e++) {
                differs &= Integer.bitCount(left(w, e)) < 2 || c[e] != best[e];
            }
            if (differs) {
                others.add(c);
            }
        }
        int[] other = best(s, others);
        if (other == null) {
            return -2;
        }
        tellChoice(other);
        return worth(s, other);
    }

    int conflict() {
        State free = s.copy();
        free.orders.clear();
        if (choices(free).isEmpty()) {
            return -3;
        }
        if (!choices(s).isEmpty()) {
            return -2;
        }
        for (int many = 1; many <= 10; many++) {
            for (int bits = 0; bits < 1 << s.orders.size(); bits++) {
                if (Integer.bitCount(bits) != many) {
                    continue;
                }
                State some = s.copy();
                some.orders.clear();
                for (int o = 0; o < s.orders.size(); o++) {
                    if ((bits >> o & 1) == 0) {
                        some.orders.add(s.orders.get(o));
                    }
                }
                int n = choices(some).size();
                if (n > 0) {
                    tell(n);
                    return bits;
                }
            }
        }
        throw new IllegalStateException();
    }

    int without(int i) {
        if (i < 0 || i >= s.orders.size()) {
            return -1;
        }
        State t = s.copy();
        t.orders.remove(i);
        tell(left(with(choices(t))) - left(with(choices(s))));
        return choices(t).size();
    }

    int with(int kind, int x, int y) {
        State t = s.copy();
        int n = addOrder(t, kind, x, y, 99);
        if (n < 0) {
            return n;
        }
        tell(left(with(choices(s))) - left(with(choices(t))));
        return choices(t).size();
    }

    int asks() {
        int[][] w = with(choices(s));
        int asked = -2;
        int fewest = 0;
        for (int e = 0; e < 6; e++) {
            if (Integer.bitCount(left(w, e)) > 1) {
                int most = Arrays.stream(w[e]).max().getAsInt();
                if (asked == -2 || most < fewest) {
                    asked = e;
                    fewest = most;
                }
            }
        }
        if (asked >= 0) {
            tell(fewest);
        }
        return asked;
    }

    // ---- on a day

    int may(int d, int[][] w) {
        int bits = 0;
        for (int e = 0; e < 6; e++) {
            if (leftOf(e, w).stream().anyMatch(x -> x.from() <= d && d <= x.to())) {
                bits |= 1 << e;
            }
        }
        return bits;
    }

    int on(int d) {
        if (!isDay(d)) {
            return -1;
        }
        int[][] w = with(choices(s));
        int must = 0;
        for (int e = 0; e < 6; e++) {
            List<Reading> all = leftOf(e, w);
            if (!all.isEmpty() && all.stream().allMatch(x -> x.from() <= d && d <= x.to())) {
                must |= 1 << e;
            }
        }
        tell(must);
        return may(d, w);
    }

    int busiest() {
        int[][] w = with(choices(s));
        int busy = -2;
        int most = 0;
        for (int d = 0; d <= 9999; d++) {
            int n = Integer.bitCount(may(d, w));
            if (n > most) {
                busy = d;
                most = n;
            }
        }
        if (most > 0) {
            tell(most);
        }
        return busy;
    }

    int free(int d, int n) {
        if (!isDay(d) || n < 1 || n > 99) {
            return -1;
        }
        int[][] w = with(choices(s));
        int free = 0;
        for (int k = d; k <= 9999; k++) {
            free = may(k, w) == 0 ? free + 1 : 0;
            if (free == n) {
                return k - n + 1;
            }
        }
        return -2;
    }

    // ---- changes

    void record() {
        past.add(s.copy());
        if (past.size() > 8) {
            past.remove(0);
        }
    }

    /** An ACT or a call of that name: what it answers; it is remembered if that is asked for. */
    int change(String name, int a, int b, int c, boolean remember) {
        State was = s.copy();
        int answer = switch (name) {
            case "order" -> addOrder(s, a, b, c, 10);
            case "goes" -> goes(a);
            case "rules" -> rules(a, b, c == 1);
            case "narrows" -> narrows();
            case "drops" -> drops(a);
            default -> ref(a);
        };
        if (answer >= 0 && remember) {
            State after = s;
            s = was;
            record();
            s = after;
        }
        return answer;
    }

    private int goes(int i) {
        if (i < 0 || i >= s.orders.size()) {
            return -1;
        }
        s.orders.remove(i);
        return s.orders.size();
    }

    private int rules(int e, int i, boolean is) {
        if (!s.events.containsKey(e) || i < 0 || i >= s.events.get(e).size()) {
            return -1;
        }
        if (s.in.get(e)[i] == !is) {
            return -2;
        }
        s.in.get(e)[i] = !is;
        int n = 0;
        for (boolean b : s.in.get(e)) {
            n += b ? 1 : 0;
        }
        return n;
    }

    private int narrows() {
        List<int[]> all = choices(s);
        if (all.isEmpty()) {
            return -3;
        }
        int[][] w = with(all);
        int n = 0;
        for (int e : s.events.keySet()) {
            for (int i = 0; i < s.in.get(e).length; i++) {
                if (s.in.get(e)[i] && w[e][i] == 0) {
                    s.in.get(e)[i] = false;
                    n++;
                }
            }
        }
        return n == 0 ? -2 : n;
    }

    private int drops(int e) {
        if (e < 0 || e > 5) {
            return -1;
        }
        if (!s.events.containsKey(e)) {
            return -2;
        }
        s.events.remove(e);
        s.in.remove(e);
        return s.events.size();
    }

    private int ref(int d) {
        if (!isDay(d)) {
            return -1;
        }
        if (s.ref == d) {
            return -2;
        }
        int was = s.ref;
        s.ref = d;
        return was;
    }

    int work() {
        String t = takeText();
        String acts = "ogrindf";
        int[] digits = {3, 1, 2, 2, 0, 1, 4};
        List<String> all = new ArrayList<>();
        for (int p = 0; p < t.length();) {
            int act = acts.indexOf(t.charAt(p));
            if (act < 0) {
                return -1 - p;
            }
            int from = p;
            p++;
            for (int k = 0; k < digits[act]; k++, p++) {
                if (p >= t.length() || "0123456789".indexOf(t.charAt(p)) < 0) {
                    return -1 - p;
                }
            }
            all.add(t.substring(from, p));
        }
        State was = s.copy();
        int done = 0;
        for (String act : all) {
            if (doAct(act) < 0) {
                break;
            }
            done++;
        }
        if (done > 0) {
            State after = s;
            s = was;
            record();
            s = after;
        }
        tell(done < all.size() ? 1 : 0, choices(s).size());
        return done;
    }

    private int doAct(String act) {
        int[] d = act.substring(1).chars().map(c -> c - '0').toArray();
        return switch (act.charAt(0)) {
            case 'o' -> change("order", d[0], d[1], d[2], false);
            case 'g' -> change("goes", d[0], 0, 0, false);
            case 'r' -> change("rules", d[0], d[1], 1, false);
            case 'i' -> change("rules", d[0], d[1], 0, false);
            case 'n' -> change("narrows", 0, 0, 0, false);
            case 'd' -> change("drops", d[0], 0, 0, false);
            default -> change("ref", Integer.parseInt(act.substring(1)), 0, 0, false);
        };
    }

    int undo() {
        if (past.isEmpty()) {
            return -1;
        }
        s = past.remove(past.size() - 1);
        return past.size();
    }

    int years(int seed, int n) {
        if (n < 1 || n > 20) {
            return -1;
        }
        State t = s.copy();
        int r = seed;
        for (int i = 0; i < n; i++) {
            int[] drawn = new int[3];
            int[] of = {5, 6, 6};
            for (int k = 0; k < 3; k++) {
                r = r * 1103515245 + 12345;
                drawn[k] = (int) (Integer.toUnsignedLong(r) / 65536 % of[k]);
            }
            addOrder(t, drawn[0], drawn[1], drawn[2], 10);
        }
        List<int[]> all = choices(t);
        tell(t.orders.size(), left(with(all)));
        return all.size();
    }

    boolean keep(int i) {
        if (i < 0 || i > 1) {
            return false;
        }
        kept[i] = s.copy();
        return true;
    }

    boolean again(int i) {
        if (i < 0 || i > 1 || kept[i] == null) {
            return false;
        }
        s = kept[i].copy();
        past.clear();
        return true;
    }

    int count(int what) {
        int bits = 0;
        int all = 0;
        int in = 0;
        for (int e : s.events.keySet()) {
            bits |= 1 << e;
            all += s.events.get(e).size();
            for (boolean b : s.in.get(e)) {
                in += b ? 1 : 0;
            }
        }
        return switch (what) {
            case 0 -> bits;
            case 1 -> s.orders.size();
            case 2 -> s.ref;
            case 3 -> all;
            case 4 -> in;
            case 5 -> left(with(choices(s)));
            case 6 -> past.size();
            case 7 -> row.size();
            case 8 -> text.length();
            default -> -1;
        };
    }
}
