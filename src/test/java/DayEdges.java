/** Edges of DAYS: the begin of term 1, promises 6, 7 and 8. */
final class DayEdges {
    private static final int[] FAR = {Integer.MIN_VALUE, -1, 10000, Integer.MAX_VALUE};

    static void all() {
        days();
        dayZero();
        monthsAsTheyAre();
        leapYears();
        weeks();
        ref();
        byWeeks();
        byMonths();
        byYears();
        dayOfADate();
        dateOfADay();
        noSuchDate();
        movedByN();
        movedByUnits();
        movedOut();
        movedNot();
    }

    private static void days() {
        Edge e = new Edge("Term 1", "DAYS 0 .. 9999");
        e.is("date(0)", e.x.date(0), 2000);
        e.is("date(9999)", e.x.date(9999), 2027);
        e.is("on(0)", e.x.on(0), 0);
        e.is("on(9999)", e.x.on(9999), 0);
        e.is("free(0, 1)", e.x.free(0, 1), 0);
        e.is("free(9999, 1)", e.x.free(9999, 1), 9999);
        for (int day : FAR) {
            e.is("date(" + day + ")", e.x.date(day), -1);
            e.is("on(" + day + ")", e.x.on(day), -1);
            e.is("free(" + day + ", 1)", e.x.free(day, 1), -1);
            e.is("ref(" + day + ")", e.x.ref(day), -1);
            e.is("moved(" + day + ", 0, 0)", e.x.moved(day, 0, 0), -1);
            e.is("means(" + day + ")", e.text("today").x.means(day), -1);
        }
    }

    private static void dayZero() {
        Edge e = new Edge("Term 1", "DAY 0 is Saturday, January 1, 2000");
        e.is("date(0)", e.x.date(0), 2000);
        e.row("date(0)", 1, 1, 5);
        e.is("date(1)", e.x.date(1), 2000);
        e.row("date(1)", 1, 2, 6);
        e.is("date(2)", e.x.date(2), 2000);
        e.row("date(2)", 1, 3, 0);
        e.is("day(2000, 1, 1)", e.x.day(2000, 1, 1), 0);
    }

    private static void monthsAsTheyAre() {
        Edge e = new Edge("Term 1", "YEARS, MONTHS as they are");
        int[] lengths = {31, 28, 31, 30, 31, 30, 31, 31, 30, 31, 30, 31};
        for (int month = 1; month <= 12; month++) {
            int last = lengths[month - 1];
            e.is("first of month " + month, e.x.day(2005, month, 1), Edge.day(2005, month, 1));
            e.is("last of month " + month, e.x.day(2005, month, last), Edge.day(2005, month, last));
            e.is("none of month " + month, e.x.day(2005, month, last + 1), -1);
            e.is("number 0 of month " + month, e.x.day(2005, month, 0), -1);
        }
    }

    private static void leapYears() {
        Edge e = new Edge("Term 1", "each fourth YEAR from 2000 on has a February 29");
        for (int year = 2000; year <= 2027; year++) {
            boolean fourth = year % 4 == 0;
            int march = Edge.day(year, 3, 1);
            e.is("February 28, " + year, e.x.day(year, 2, 28), march - (fourth ? 2 : 1));
            e.is("February 29, " + year, e.x.day(year, 2, 29), fourth ? march - 1 : -1);
            e.is("February 30, " + year, e.x.day(year, 2, 30), -1);
            e.is("March 1, " + year, e.x.day(year, 3, 1), march);
            e.is("the day ahead of March 1, " + year, e.x.date(march - 1), year);
            e.row("the day ahead of March 1, " + year, 2, fourth ? 29 : 28, (march - 1 + 5) % 7);
        }
    }

    private static void weeks() {
        Edge e = new Edge("Term 1", "WEEKS are from Monday to Sunday.");
        e.means(2997, "this week", 2991, 2997, 1, 3);
        e.means(2998, "this week", 2998, 3004, 1, 3);
        e.means(3004, "this week", 2998, 3004, 1, 3);
        e.means(3005, "this week", 3005, 3011, 1, 3);
    }

    private static void ref() {
        Edge e = new Edge("Term 1", "REF 0 .. 9999 (3000 at first)");
        e.counts(2, 3000);
        e.tells(0, -1, "today", 1);
        e.is("reading(0, 0, 0)", e.x.reading(0, 0, 0), 3000);
        e.is("ref(-1)", e.x.ref(-1), -1);
        e.is("ref(10000)", e.x.ref(10000), -1);
        e.counts(2, 3000);
        e.is("ref(0)", e.x.ref(0), 3000);
        e.tells(0, -1, "today", 1);
        e.is("reading(0, 0, 0)", e.x.reading(0, 0, 0), 0);
        e.is("ref(9999)", e.x.ref(9999), 0);
        e.tells(0, -1, "today", 1);
        e.is("reading(0, 0, 0)", e.x.reading(0, 0, 0), 9999);
    }

    private static void byWeeks() {
        Edge e = new Edge("Term 1", "WEEKS (7 DAYS each)");
        e.is("a week on", e.x.moved(3000, 1, 1), 3007);
        e.is("a week back", e.x.moved(3000, 1, -1), 2993);
        e.is("no week", e.x.moved(3000, 1, 0), 3000);
        e.is("as far back as it goes", e.x.moved(9996, 1, -1428), 0);
    }

    private static void moved(Edge e, int unit, int n, int from, int to) {
        e.is(Edge.date(from) + " moved by " + n + " of unit " + unit, e.x.moved(from, unit, n), to);
    }

    private static void byMonths() {
        Edge e = new Edge("Term 1",
            "by MONTHS it is the same number in that MONTH, the last one that it has, if it has not so many");
        for (int number = 27; number <= 31; number++) {
            int inFebruary = Math.min(number, 28);
            moved(e, 2, 1, Edge.day(2001, 1, number), Edge.day(2001, 2, inFebruary));
            moved(e, 2, -1, Edge.day(2001, 3, number), Edge.day(2001, 2, inFebruary));
            int inLongFebruary = Math.min(number, 29);
            moved(e, 2, 1, Edge.day(2004, 1, number), Edge.day(2004, 2, inLongFebruary));
            moved(e, 2, -1, Edge.day(2004, 3, number), Edge.day(2004, 2, inLongFebruary));
            moved(e, 2, 2, Edge.day(2003, 12, number), Edge.day(2004, 2, inLongFebruary));
        }
        moved(e, 2, 1, Edge.day(2001, 3, 30), Edge.day(2001, 4, 30));
        moved(e, 2, 1, Edge.day(2001, 3, 31), Edge.day(2001, 4, 30));
        moved(e, 2, 1, Edge.day(2001, 4, 30), Edge.day(2001, 5, 30));
        moved(e, 2, 1, Edge.day(2001, 7, 31), Edge.day(2001, 8, 31));
        moved(e, 2, 1, Edge.day(2001, 12, 31), Edge.day(2002, 1, 31));
        moved(e, 2, -1, Edge.day(2001, 1, 31), Edge.day(2000, 12, 31));
        moved(e, 2, 0, Edge.day(2001, 1, 31), Edge.day(2001, 1, 31));
    }

    private static void byYears() {
        Edge e = new Edge("Term 1", "YEARS (12 MONTHS each)");
        moved(e, 3, 1, Edge.day(2004, 2, 29), Edge.day(2005, 2, 28));
        moved(e, 3, -1, Edge.day(2004, 2, 29), Edge.day(2003, 2, 28));
        moved(e, 3, 4, Edge.day(2004, 2, 29), Edge.day(2008, 2, 29));
        moved(e, 3, -4, Edge.day(2004, 2, 29), Edge.day(2000, 2, 29));
        moved(e, 3, 1, Edge.day(2003, 2, 28), Edge.day(2004, 2, 28));
        moved(e, 3, 1, Edge.day(2003, 12, 31), Edge.day(2004, 12, 31));
        moved(e, 3, 1, Edge.day(2004, 1, 1), Edge.day(2005, 1, 1));
    }

    private static void dayOfADate() {
        Edge e = new Edge("Promise 6", "A DAY of a date: it. NONE: none from 0 to 9999.");
        e.is("the first", e.x.day(2000, 1, 1), 0);
        e.is("the day ahead of it", e.x.day(1999, 12, 31), -1);
        e.is("the last", e.x.day(2027, 5, 18), 9999);
        e.is("the day behind it", e.x.day(2027, 5, 19), -1);
        e.is("a number that is none", e.x.day(2000, 1, 0), -1);
        e.is("a number that is none", e.x.day(2000, 1, 32), -1);
        e.is("month 0", e.x.day(2001, 0, 1), -1);
        e.is("month 1", e.x.day(2001, 1, 1), 366);
        e.is("month 12", e.x.day(2000, 12, 31), 365);
        e.is("month 13", e.x.day(2000, 13, 1), -1);
        for (int far : FAR) {
            e.is("year " + far, e.x.day(far, 1, 1), -1);
            e.is("month " + far, e.x.day(2000, far, 1), -1);
            e.is("number " + far, e.x.day(2000, 1, far), -1);
        }
        // A number so great that a sum with it comes round to one that would be a DAY.
        e.is("a wrap-around", e.x.day(2027, 12, Integer.MIN_VALUE + 5), -1);
        e.is("a wrap-around", e.x.day(2000 + (1 << 30), 1, 1), -1);
        e.is("the row stays empty", e.x.count(7), 0);
    }

    private static void dateOfADay() {
        Edge e = new Edge("Promise 7", "Of a DAY: the YEAR; the ROW: MONTH 1 .. 12, number, 0 Monday .. 6 Sunday.");
        e.is("the last of a year", e.x.date(Edge.day(2003, 12, 31)), 2003);
        e.row("a Wednesday", 12, 31, 2);
        e.is("the first of a year", e.x.date(Edge.day(2004, 1, 1)), 2004);
        e.row("a Thursday", 1, 1, 3);
        e.is("the last of a year of 366", e.x.date(Edge.day(2004, 12, 31)), 2004);
        e.row("a Friday", 12, 31, 4);
        e.is("the first behind it", e.x.date(Edge.day(2005, 1, 1)), 2005);
        e.row("a Saturday", 1, 1, 5);
        e.is("a Sunday", e.x.date(3004), 2008);
        e.row("a Sunday", 3, 23, 6);
        e.is("a Monday", e.x.date(3005), 2008);
        e.row("a Monday", 3, 24, 0);
    }

    private static void noSuchDate() {
        Edge e = new Edge("Promise 7", "NONE: no such DAY.");
        e.is("date(0)", e.x.date(0), 2000);
        e.is("date(-1)", e.x.date(-1), -1);
        e.row("the row of date(0)", 1, 1, 5);
        e.is("date(9999)", e.x.date(9999), 2027);
        e.is("date(10000)", e.x.date(10000), -1);
        e.row("the row of date(9999)", 5, 18, 1);
    }

    private static void movedByN() {
        Edge e = new Edge("Promise 8", "A DAY moved by n (-9999 .. 9999) UNITS");
        e.is("by 9999", e.x.moved(0, 0, 9999), 9999);
        e.is("by 10000", e.x.moved(0, 0, 10000), -1);
        e.is("by -9999", e.x.moved(9999, 0, -9999), 0);
        e.is("by -10000", e.x.moved(9999, 0, -10000), -1);
        for (int unit = 1; unit <= 3; unit++) {
            e.is("by 9999", e.x.moved(0, unit, 9999), -2);
            e.is("by 10000", e.x.moved(0, unit, 10000), -1);
            e.is("by -9999", e.x.moved(9999, unit, -9999), -2);
            e.is("by -10000", e.x.moved(9999, unit, -10000), -1);
            e.is("by the greatest int", e.x.moved(0, unit, Integer.MAX_VALUE), -1);
            e.is("by the least int", e.x.moved(0, unit, Integer.MIN_VALUE), -1);
        }
    }

    private static void movedByUnits() {
        Edge e = new Edge("Promise 8", "UNITS (0 DAY .. 3 YEAR): it.");
        e.is("unit -1", e.x.moved(3000, -1, 1), -1);
        e.is("unit 0", e.x.moved(3000, 0, 1), 3001);
        e.is("unit 1", e.x.moved(3000, 1, 1), 3007);
        e.is("unit 2", e.x.moved(3000, 2, 1), 3031);
        e.is("unit 3", e.x.moved(3000, 3, 1), 3365);
        e.is("unit 4", e.x.moved(3000, 4, 1), -1);
    }

    private static void movedOut() {
        Edge e = new Edge("Promise 8", "-2: it is not 0 .. 9999;");
        moved(e, 0, -1, 1, 0);
        moved(e, 0, -1, 0, -2);
        moved(e, 0, 1, 9998, 9999);
        moved(e, 0, 1, 9999, -2);
        moved(e, 1, -1, 7, 0);
        moved(e, 1, -1, 6, -2);
        moved(e, 1, 1, 9992, 9999);
        moved(e, 1, 1, 9993, -2);
        moved(e, 2, -1, Edge.day(2000, 2, 1), 0);
        moved(e, 2, -1, Edge.day(2000, 1, 31), -2);
        moved(e, 2, 1, Edge.day(2027, 4, 18), 9999);
        moved(e, 2, 1, Edge.day(2027, 4, 19), -2);
        moved(e, 3, -1, Edge.day(2001, 1, 1), 0);
        moved(e, 3, -1, Edge.day(2000, 12, 31), -2);
        moved(e, 3, 1, Edge.day(2026, 5, 18), 9999);
        moved(e, 3, 1, Edge.day(2026, 5, 19), -2);
        moved(e, 2, 12, Edge.day(2027, 4, 19), -2);
    }

    private static void movedNot() {
        Edge e = new Edge("Promise 8", "NONE: no such DAY, UNIT, n.");
        e.is("no such day, though the way leads back", e.x.moved(10000, 0, -1), -1);
        e.is("no such day, though the way leads back", e.x.moved(-1, 0, 1), -1);
        e.is("no such unit ahead of -2", e.x.moved(9999, 4, 1), -1);
        e.is("no such n ahead of -2", e.x.moved(9999, 0, 10000), -1);
        e.is("a day, a unit, an n", e.x.moved(9999, 0, 1), -2);
        e.is("the row stays empty", e.x.count(7), 0);
    }
}
