import java.util.List;
import java.util.NoSuchElementException;
import java.util.Random;

/** Runs of drawn calls (the same ones each time), each answer and the ROW behind it held against the Model. */
public final class RandomRunsTest {
    private static final String[] BASES = {"today", "tomorrow", "yesterday", "in # @", "# @ ago", "this @", "next @",
        "last @", "%", "this %", "next %", "last %", "% after next", "&", "& #", "& # !", "!"};
    private static final String[] PREFIXES = {"# @ after ", "# @ before ", "early ", "mid ", "late ", "first % of ",
        "last % of "};
    private static final String[] ODD = {"", "0", "100", "12345", "to", "or", "of", "monday", "A", "~", "after", "in",
        "2028", "1999", "next", "early", "ago", "32", "99", "00031"};

    // Of 100 calls so many are order(): runs without one have many CHOICES, others soon none.
    private static final int[] ORDERS_IN_100 = {0, 2, 4, 8, 20};

    private final Random random;
    private final ProseDates x = new ProseDates();
    private final Model m = new Model();
    private final StringBuilder log = new StringBuilder();
    private int calls = 0;
    private boolean wrong = false;

    private RandomRunsTest(long seed) {
        random = new Random(seed);
    }

    public static void main(String[] args) {
        int runs = args.length > 0 ? Integer.parseInt(args[0]) : 1500;
        long first = args.length > 1 ? Long.parseLong(args[1]) : 1;
        int wrong = 0;
        for (long seed = first; seed < first + runs; seed++) {
            RandomRunsTest run = new RandomRunsTest(seed);
            run.go();
            if (run.wrong) {
                System.out.println("run " + seed + ":\n" + run.log);
                wrong++;
            }
        }
        System.out.println(wrong == 0 ? runs + " runs are as the model's" : wrong + " runs are not as the model's");
        System.exit(wrong == 0 ? 0 : 1);
    }

    private int upTo(int n) {
        return random.nextInt(n);
    }

    private boolean chance(int in100) {
        return upTo(100) < in100;
    }

    private String oneOf(String[] all) {
        return all[upTo(all.length)];
    }

    private void go() {
        int orders = ORDERS_IN_100[upTo(ORDERS_IN_100.length)];
        // One step makes up to 130 calls, and what an object answers behind its 512th call is free.
        while (calls < 380 && !wrong) {
            step(orders);
        }
    }

    /** Holds an answer against that which is due, without the ROW. */
    private void answer(String call, long got, long want) {
        calls++;
        log.append("  ").append(call).append(" = ").append(got);
        if (got != want) {
            log.append(", due is ").append(want);
            wrong = true;
        }
        log.append('\n');
    }

    private void due(String call, long got, long want) {
        answer(call, got, want);
        calls += 1 + m.row.size();
        if (x.count(7) != m.row.size()) {
            log.append("  the row has ").append(x.count(7)).append(", due is ").append(m.row.size()).append('\n');
            wrong = true;
            return;
        }
        for (int i = 0; i < m.row.size(); i++) {
            if (x.row(i) != m.row.get(i)) {
                log.append("  row(").append(i).append(") = ").append(x.row(i)).append(", due is ")
                    .append(m.row.get(i)).append('\n');
                wrong = true;
            }
        }
    }

    private void give(String t) {
        for (int i = 0; i < t.length(); i += 4) {
            int v = 0;
            for (int k = 0; k < 4; k++) {
                v = v << 8 | (i + k < t.length() ? t.charAt(i + k) : 0);
            }
            answer("sign(" + v + ")", x.sign(v), m.sign(v));
        }
        due("end(" + t.length() + ") '" + t + "'", x.end(t.length()) ? 1 : 0, m.end(t.length()) ? 1 : 0);
    }

    /** Signs that are cut off again, now and then as many as THE TEXT takes. */
    private void signs() {
        int times = chance(50) ? 22 : upTo(22);
        for (int i = 0; i < times; i++) {
            int v = random.nextInt();
            answer("sign(" + v + ")", x.sign(v), m.sign(v));
        }
        int n = upTo(90) - 3;
        due("end(" + n + ")", x.end(n) ? 1 : 0, m.end(n) ? 1 : 0);
        due("count(8)", x.count(8), m.count(8));
        due("end(0)", x.end(0) ? 1 : 0, m.end(0) ? 1 : 0);
    }

    private String fill(String t) {
        StringBuilder out = new StringBuilder();
        for (char c : t.toCharArray()) {
            switch (c) {
                case '#' -> out.append(chance(80) ? 1 + upTo(31) : upTo(101));
                case '@' -> out.append(Model.UNITS.get(upTo(4)));
                case '%' -> out.append(Model.DAY_NAMES.get(upTo(7)));
                case '&' -> out.append(chance(15) ? "feb" : Model.MONTH_NAMES.get(upTo(12)));
                case '!' -> out.append(chance(70) ? 2005 + upTo(7) : 1999 + upTo(30));
                default -> out.append(c);
            }
        }
        return out.toString();
    }

    private String span() {
        String t = oneOf(BASES);
        while (chance(25)) {
            t = oneOf(PREFIXES) + t;
        }
        return fill(t);
    }

    private String names() {
        StringBuilder t = new StringBuilder(fill("%"));
        int more = upTo(3);
        for (int i = 0; i < more; i++) {
            t.append(fill(chance(70) ? " or %" : " or in # day"));
        }
        return t.toString();
    }

    private String phrase() {
        if (chance(40)) {
            return names();
        }
        StringBuilder t = new StringBuilder(span());
        if (chance(20)) {
            t.append(" to ").append(span());
        }
        while (chance(30)) {
            t.append(" or ").append(span());
            if (chance(10)) {
                t.append(" to ").append(span());
            }
        }
        if (chance(12)) {
            String[] words = t.toString().split(" ");
            int at = upTo(words.length);
            words[at] = chance(50) ? fill(oneOf(ODD)) : chance(50) ? words[upTo(words.length)] : fill("# ") + words[at];
            t = new StringBuilder(String.join(" ", words));
        }
        if (chance(10)) {
            t = new StringBuilder(t.toString().replaceAll("([0-9]) ", chance(50) ? "$1" : "$1  "));
        }
        if (chance(5)) {
            t.setLength(upTo(t.length() + 1));
        }
        if (chance(3) && t.length() > 0) {
            t.setCharAt(upTo(t.length()), (char) upTo(256));
        }
        return t.length() > 80 ? t.substring(0, 80) : t.toString();
    }

    private String workText() {
        StringBuilder t = new StringBuilder();
        int acts = upTo(6);
        for (int i = 0; i < acts; i++) {
            switch (upTo(7)) {
                case 0, 1 -> t.append('o').append(upTo(6)).append(upTo(6)).append(upTo(6));
                case 2 -> t.append('g').append(upTo(4));
                case 3 -> t.append('r').append(upTo(6)).append(upTo(5));
                case 4 -> t.append('i').append(upTo(6)).append(upTo(5));
                case 5 -> t.append(chance(60) ? "n" : "d" + upTo(6));
                default -> t.append('f').append(2900 + upTo(200));
            }
        }
        if (chance(8)) {
            t.setLength(upTo(t.length() + 1));
        }
        if (chance(5)) {
            t.append((char) upTo(256));
        }
        return t.toString();
    }

    private int aDay() {
        if (chance(35) && !m.s.events.isEmpty()) {
            List<Model.Reading> all = m.s.events.get(m.s.events.keySet().iterator().next());
            Model.Reading one = all.get(upTo(all.size()));
            return chance(50) ? one.from() : one.to() + upTo(3) - 1;
        }
        return chance(60) ? 2950 + upTo(120) : chance(20) ? upTo(40) : chance(20) ? 9960 + upTo(45) : upTo(10002) - 1;
    }

    private int anEvent() {
        return chance(96) ? upTo(6) : upTo(12) - 3;
    }

    private void step(int orders) {
        int p = upTo(100);
        if (p < 22) {
            if (chance(5)) {
                signs();
            }
            give(phrase());
            if (chance(20)) {
                int d = aDay();
                due("means(" + d + ")", x.means(d), m.means(d));
            } else {
                int e = anEvent();
                int by = chance(55) ? -1 : anEvent();
                due("tells(" + e + ", " + by + ")", x.tells(e, by), m.tells(e, by));
            }
        } else if (p < 22 + orders) {
            int k = chance(95) ? upTo(5) : upTo(9) - 2;
            int a = anEvent();
            int b = anEvent();
            due("order(" + k + ", " + a + ", " + b + ")", x.order(k, a, b), m.change("order", k, a, b, true));
        } else if (p < 60) {
            change();
        } else {
            question();
        }
    }

    private void change() {
        int a = upTo(chance(50) ? 3 : 12) - 1;
        int e = anEvent();
        int i = upTo(5) - (chance(5) ? 1 : 0);
        int d = aDay();
        switch (upTo(16)) {
            case 0, 1 -> due("ref(" + d + ")", x.ref(d), m.change("ref", d, 0, 0, true));
            case 2, 3 -> due("rules(" + e + ", " + i + ", true)", x.rules(e, i, true), m.change("rules", e, i, 1, true));
            case 4, 5, 6 -> due("rules(" + e + ", " + i + ", false)", x.rules(e, i, false),
                m.change("rules", e, i, 0, true));
            case 7 -> due("narrows()", x.narrows(), m.change("narrows", 0, 0, 0, true));
            case 8 -> due("drops(" + e + ")", x.drops(e), m.change("drops", e, 0, 0, true));
            case 9, 10 -> due("goes(" + a + ")", x.goes(a), m.change("goes", a, 0, 0, true));
            case 11, 12 -> {
                give(workText());
                due("work()", x.work(), m.work());
            }
            case 13 -> due("undo()", x.undo(), m.undo());
            case 14 -> {
                int k = upTo(4) - 1;
                due("keep(" + k + ")", x.keep(k) ? 1 : 0, m.keep(k) ? 1 : 0);
            }
            default -> {
                int k = upTo(4) - 1;
                if (chance(40)) {
                    due("again(" + k + ")", x.again(k) ? 1 : 0, m.again(k) ? 1 : 0);
                } else {
                    undoSome();
                }
            }
        }
    }

    private void undoSome() {
        int times = upTo(10);
        for (int i = 0; i < times; i++) {
            answer("undo()", x.undo(), m.undo());
        }
        due("count(6)", x.count(6), m.count(6));
    }

    private void question() {
        int e = anEvent();
        int d = aDay();
        int a = upTo(12) - 1;
        int k = upTo(6);
        int b = anEvent();
        switch (upTo(20)) {
            case 0 -> {
                int year = 1999 + upTo(30);
                int month = upTo(14);
                int n = upTo(33);
                due("day(" + year + ", " + month + ", " + n + ")", x.day(year, month, n), m.day(year, month, n));
            }
            case 1 -> due("date(" + d + ")", x.date(d), m.dateOf(d));
            case 2 -> {
                int unit = upTo(6) - 1;
                int n = chance(80) ? upTo(200) - 100 : upTo(20010) - 10005;
                due("moved(" + d + ", " + unit + ", " + n + ")", x.moved(d, unit, n), m.moved(d, unit, n));
            }
            case 3 -> due("readings(" + e + ")", x.readings(e), m.readings(e));
            case 4 -> allReadings(e);
            case 5 -> due("hull(" + e + ")", x.hull(e), m.hull(e));
            case 6 -> due("told(" + a + ")", x.told(a), m.told(a));
            case 7 -> due("choices()", x.choices(), m.choices());
            case 8 -> due("best()", x.best(), m.best());
            case 9 -> due("other()", x.other(), m.other());
            case 10 -> due("conflict()", x.conflict(), m.conflict());
            case 11 -> due("without(" + a + ")", x.without(a), m.without(a));
            case 12 -> due("with(" + k + ", " + e + ", " + b + ")", x.with(k, e, b), m.with(k, e, b));
            case 13 -> due("asks()", x.asks(), m.asks());
            case 14 -> due("on(" + d + ")", x.on(d), m.on(d));
            case 15 -> due("busiest()", x.busiest(), m.busiest());
            case 16 -> {
                int n = chance(90) ? 1 + upTo(20) : upTo(102);
                due("free(" + d + ", " + n + ")", x.free(d, n), m.free(d, n));
            }
            case 17 -> {
                int seed = random.nextInt();
                int n = upTo(22);
                due("years(" + seed + ", " + n + ")", x.years(seed, n), m.years(seed, n));
            }
            default -> {
                for (int what = -1; what < 10; what++) {
                    answer("count(" + what + ")", x.count(what), m.count(what));
                }
            }
        }
    }

    private void allReadings(int e) {
        for (int i = -1; i < 7; i++) {
            for (int what = -1; what < 6; what++) {
                calls++;
                Long want = m.reading(e, i, what);
                Long got = null;
                try {
                    got = (long) x.reading(e, i, what);
                } catch (NoSuchElementException none) {
                    got = null;
                }
                if (want == null ? got != null : !want.equals(got)) {
                    log.append("  reading(").append(e).append(", ").append(i).append(", ").append(what).append(") = ")
                        .append(got).append(", due is ").append(want).append('\n');
                    wrong = true;
                }
            }
        }
    }
}
