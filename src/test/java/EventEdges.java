/** Edges of events and of what is on a day: promises 1, 9 to 11, 20 to 23, and the EVENTS of term 1. */
final class EventEdges {
    private static final int[] NO_EVENT = {Integer.MIN_VALUE, -1, 6, 32, Integer.MAX_VALUE};

    static void all() {
        newObject();
        events();
        toldOrNot();
        inOrRuledOut();
        readings();
        readingsNot();
        whatOfAReading();
        noReading();
        hull();
        hullNot();
        asksForTheFewest();
        asksNot();
        may();
        must();
        onNoDay();
        busiest();
        busiestNot();
        freeDays();
        freeNot();
        freeOthers();
    }

    private static void newObject() {
        Edge e = new Edge("Promise 1", "No EVENT is told.");
        e.counts(0, 0);
        for (int event = 0; event < 6; event++) {
            e.is("readings(" + event + ")", e.x.readings(event), -2);
            e.readingThrows(event, 0, 0);
        }
        e.counts(1, 0);
        e.counts(3, 0);
        e.counts(4, 0);
        e.counts(5, 0);
        e.counts(6, 0);
        e.counts(7, 0);
        e.counts(8, 0);
        ProseDates other = new ProseDates();
        e.tells(0, -1, "today", 1);
        e.is("another object has its own", other.count(0), 0);
        e.is("a new one has its own", new ProseDates().count(0), 0);
    }

    private static void events() {
        Edge e = new Edge("Term 1", "EVENTS 0 .. 5");
        for (int event = 0; event < 6; event++) {
            e.tells(event, -1, "today", 1);
            e.is("readings(" + event + ")", e.x.readings(event), 1);
            e.is("hull(" + event + ")", e.x.hull(event), 1);
            e.counts(0, (2 << event) - 1);
        }
        for (int event : NO_EVENT) {
            e.tells(event, -1, "today", -1);
            e.is("readings(" + event + ")", e.x.readings(event), -1);
            e.is("hull(" + event + ")", e.x.hull(event), -1);
            e.is("rules(" + event + ", 0, true)", e.x.rules(event, 0, true), -1);
            e.is("drops(" + event + ")", e.x.drops(event), -1);
            e.is("order(0, " + event + ", 0)", e.x.order(0, event, 0), -1);
            e.is("order(0, 0, " + event + ")", e.x.order(0, 0, event), -1);
            e.readingThrows(event, 0, 0);
        }
        e.is("drops(0)", e.x.drops(0), 5);
        e.is("drops(5)", e.x.drops(5), 4);
        e.is("order(0, 0, 5)", e.x.order(0, 0, 5), 0);
    }

    private static void toldOrNot() {
        Edge e = new Edge("Term 1", "each told or not (at first not), with READINGS");
        e.is("readings(3)", e.x.readings(3), -2);
        e.tells(3, -1, "fri", 2);
        e.is("readings(3)", e.x.readings(3), 2);
        e.counts(0, 8);
        e.x.drops(3);
        e.is("readings(3)", e.x.readings(3), -2);
        e.counts(0, 0);
        e.tells(3, -1, "2027", -200);
        e.is("readings(3)", e.x.readings(3), -2);
    }

    private static void inOrRuledOut() {
        Edge e = new Edge("Term 1", "each in or RULED OUT by hand.");
        e.told("fri");
        e.is("it is in at first", e.x.reading(0, 0, 4), 1);
        e.x.rules(0, 0, true);
        e.is("it is ruled out", e.x.reading(0, 0, 4), 0);
        e.is("the other one is in", e.x.reading(0, 1, 4), 1);
        e.is("the event has it still", e.x.readings(0), 2);
        e.is("it is what it was", e.x.reading(0, 0, 0), 3002);
        e.x.rules(0, 0, false);
        e.is("it is in again", e.x.reading(0, 0, 4), 1);
        // One that no CHOICE has is in still.
        e.told("fri", "last week").x.order(1, 0, 1);
        e.is("it is not left", e.x.readings(0), 2);
        e.row("it is not left", 3, 2);
        e.is("it is in", e.x.reading(0, 0, 4), 1);
    }

    private static void readings() {
        Edge e = new Edge("Promise 9",
            "READINGS of an EVENT: how many; the ROW: those that are in, those that are LEFT (bits).");
        e.told("today", "mon or tue or wed", "fri");
        e.is("one", e.x.readings(0), 1);
        e.row("one", 1, 1);
        e.is("six", e.x.readings(1), 6);
        e.row("six", 63, 63);
        e.x.order(0, 1, 0);
        e.is("six", e.x.readings(1), 6);
        e.row("2998, 2999, 2993 are left", 63, 2 + 8 + 32);
        e.x.rules(1, 5, true);
        e.is("six", e.x.readings(1), 6);
        e.row("2993 is out", 31, 2 + 8);
        e.x.rules(0, 0, true);
        e.is("one", e.x.readings(0), 1);
        e.row("none is in", 0, 0);
        e.is("two", e.x.readings(2), 2);
        e.row("no CHOICE: none is left", 3, 0);
    }

    private static void readingsNot() {
        Edge e = new Edge("Promise 9", "-2: it is not told; NONE: no such EVENT.");
        e.told("today");
        e.is("readings(0)", e.x.readings(0), 1);
        e.is("readings(1)", e.x.readings(1), -2);
        e.is("readings(5)", e.x.readings(5), -2);
        e.is("readings(6)", e.x.readings(6), -1);
        e.is("readings(-1)", e.x.readings(-1), -1);
        e.row("the row of readings(0)", 1, 1);
    }

    private static void whatOfAReading() {
        Edge e = new Edge("Promise 10", "Of a READING, what 0: FROM, 1: TO, 2: GRAIN, 3: WEIGHT, 4: 1 if it is "
            + "in, else 0.");
        e.told("today or next week");
        int[][] want = {{3000, 3000, 0, 3}, {3005, 3011, 1, 3}, {3001, 3007, 1, 1}};
        for (int i = 0; i < 3; i++) {
            for (int what = 0; what < 4; what++) {
                e.is("reading(0, " + i + ", " + what + ")", e.x.reading(0, i, what), want[i][what]);
            }
            e.is("reading(0, " + i + ", 4)", e.x.reading(0, i, 4), 1);
            e.x.rules(0, i, true);
            e.is("reading(0, " + i + ", 4)", e.x.reading(0, i, 4), 0);
        }
    }

    private static void noReading() {
        Edge e = new Edge("Promise 10", "NoSuchElementException: none such, another what.");
        e.told("fri", "mon or tue or wed");
        e.is("reading(0, 1, 0)", e.x.reading(0, 1, 0), 2995);
        e.readingThrows(0, 2, 0);
        e.readingThrows(0, -1, 0);
        e.is("reading(1, 5, 0)", e.x.reading(1, 5, 0), 2993);
        e.readingThrows(1, 6, 0);
        e.readingThrows(1, 5, -1);
        e.readingThrows(1, 5, 5);
        e.readingThrows(2, 0, 0);
        for (int event : NO_EVENT) {
            e.readingThrows(event, 0, 0);
            e.readingThrows(0, event == 6 ? 7 : event, 0);
            e.readingThrows(0, 0, event);
        }
        e.x.drops(1);
        e.readingThrows(1, 0, 0);
        e.tells(1, -1, "today", 1);
        e.readingThrows(1, 1, 0);
        e.is("the row stays empty", e.x.count(7), 0);
    }

    private static void hull() {
        Edge e = new Edge("Promise 11", "The least FROM, the greatest TO of READINGS of an EVENT that are LEFT: "
            + "TO less FROM, and 1; the ROW: both.");
        e.told("today", "jan 1 2000 to may 18 2027", "next week or this mon to this tue", "fri");
        e.is("one DAY", e.x.hull(0), 1);
        e.row("one DAY", 3000, 3000);
        e.is("all DAYS", e.x.hull(1), 10000);
        e.row("all DAYS", 0, 9999);
        e.told("jan 1 2000", "may 18 2027", "next week or this mon to this tue", "fri");
        e.is("DAY 0", e.x.hull(0), 1);
        e.row("DAY 0", 0, 0);
        e.is("DAY 9999", e.x.hull(1), 1);
        e.row("DAY 9999", 9999, 9999);
        e.is("FROM of the last, TO of the first", e.x.hull(2), 14);
        e.row("FROM of the last, TO of the first", 2998, 3011);
        e.is("two", e.x.hull(3), 8);
        e.row("two", 2995, 3002);
        e.tells(4, -1, "today", 1);
        e.x.order(0, 3, 4);
        e.is("one is LEFT", e.x.hull(3), 1);
        e.row("one is LEFT", 2995, 2995);
        e.x.goes(0);
        e.x.rules(3, 1, true);
        e.is("one is in", e.x.hull(3), 1);
        e.row("one is in", 3002, 3002);
    }

    private static void hullNot() {
        Edge e = new Edge("Promise 11", "-2: none is LEFT; NONE: no such EVENT.");
        e.told("today", "fri");
        e.is("hull(0)", e.x.hull(0), 1);
        e.is("not told", e.x.hull(5), -2);
        e.is("hull(6)", e.x.hull(6), -1);
        e.is("hull(-1)", e.x.hull(-1), -1);
        e.x.rules(1, 0, true);
        e.is("there is a CHOICE still", e.x.hull(0), 1);
        e.x.rules(1, 1, true);
        e.is("there is none", e.x.hull(0), -2);
        e.row("the row stays", 3000, 3000);
    }

    private static void asksForTheFewest() {
        Edge e = new Edge("Promise 20", "The EVENT that would tell most: of those with more than one READING "
            + "that is LEFT "
            + "that for which the most CHOICES with one READING of it are fewest (of equal ones the first); "
            + "the ROW: that many.");
        e.told("fri", "mon or tue", "mon or tue", "today");
        e.is("each of 1 and 2 leaves 8 of 32, 0 leaves 16", e.x.asks(), 1);
        e.row("8", 8);
        // 3002 goes with 3005 and 3006, 2995 with all four of event 1.
        e.x.order(0, 0, 1);
        e.is("of 24 CHOICES 2 leaves 6, 1 leaves 8", e.x.asks(), 2);
        e.row("6", 6);
        e.x.rules(2, 1, true);
        e.x.rules(2, 2, true);
        e.x.rules(2, 3, true);
        e.is("2 has one READING: of 6 CHOICES 1 leaves 2, 0 leaves 4", e.x.asks(), 1);
        e.row("2", 2);
        e.told("fri", "thu");
        e.is("of equal ones the first", e.x.asks(), 0);
        e.row("2", 2);
        // 3000 goes with all three of event 1, 3020 with the last alone: 3 of 4 CHOICES, against 2 of event 1.
        e.told("today or in 20 day", "in 5 day or in 10 day or in 30 day").x.order(0, 0, 1);
        e.is("the first READING has the most CHOICES", e.x.asks(), 1);
        e.row("2", 2);
    }

    private static void asksNot() {
        Edge e = new Edge("Promise 20", "-2: none such.");
        e.is("no event is told", e.x.asks(), -2);
        e.told("today", "fri");
        e.is("asks()", e.x.asks(), 1);
        e.row("asks()", 1);
        e.x.rules(1, 0, true);
        e.is("one READING each", e.x.asks(), -2);
        e.x.rules(1, 0, false);
        e.x.order(0, 0, 1);
        e.is("two are in, one is LEFT", e.x.asks(), -2);
        e.x.order(0, 1, 0);
        e.is("none is LEFT", e.x.asks(), -2);
        e.row("the row stays", 1);
    }

    private static void may() {
        Edge e = new Edge("Promise 21", "EVENTS that may have a DAY (some READING LEFT has it)");
        e.told("this week", "today", "fri");
        int[] days = {2994, 2995, 2996, 2997, 2998, 2999, 3000, 3001, 3002, 3003, 3004, 3005};
        int[] want = {0, 4, 0, 0, 1, 1, 3, 1, 5, 1, 1, 0};
        for (int i = 0; i < days.length; i++) {
            e.is("on(" + days[i] + ")", e.x.on(days[i]), want[i]);
        }
        e.x.order(0, 1, 2);
        e.is("2995 is not LEFT", e.x.on(2995), 0);
        e.is("3002 is LEFT", e.x.on(3002), 5);
        e.x.rules(2, 0, true);
        e.is("none is LEFT", e.x.on(3000), 0);
    }

    private static void must() {
        Edge e = new Edge("Promise 21", "the ROW: those that must (each LEFT one has it; some is LEFT), both as bits.");
        e.told("this week or this month", "fri", "today", "today", "today", "today");
        e.is("on(3002)", e.x.on(3002), 3);
        e.row("both READINGS of 0 have it, one of 1", 1);
        e.is("on(2997)", e.x.on(2997), 1);
        e.row("one READING of 0 has it", 0);
        e.is("on(3000)", e.x.on(3000), 61);
        e.row("all but event 1", 61);
        e.is("on(1)", e.x.on(1), 0);
        e.row("nothing", 0);
        e.x.order(0, 2, 1);
        e.is("on(3002)", e.x.on(3002), 3);
        e.row("the LEFT one of 1 has it", 3);
        e.x.rules(1, 0, true);
        e.is("on(3000)", e.x.on(3000), 0);
        e.row("none is LEFT", 0);
    }

    private static void onNoDay() {
        Edge e = new Edge("Promise 21", "NONE: no such DAY.");
        e.told("jan 1 2000", "may 18 2027");
        e.is("on(0)", e.x.on(0), 1);
        e.row("on(0)", 1);
        e.is("on(-1)", e.x.on(-1), -1);
        e.is("on(9999)", e.x.on(9999), 2);
        e.row("on(9999)", 2);
        e.is("on(10000)", e.x.on(10000), -1);
        e.row("the row stays", 2);
    }

    private static void busiest() {
        Edge e = new Edge("Promise 22", "The DAY (the first) that the most EVENTS may have: it; the ROW: how many.");
        e.told("this week");
        e.is("the first DAY of one event", e.x.busiest(), 2998);
        e.row("one", 1);
        e.told("this week", "this wed to next mon");
        e.is("the first of 3000 .. 3004", e.x.busiest(), 3000);
        e.row("two", 2);
        e.told("this wed to next mon", "this week");
        e.is("the events the other way round", e.x.busiest(), 3000);
        e.told("tomorrow or today");
        e.is("of equal ones the first", e.x.busiest(), 3000);
        e.row("one event, not two READINGS", 1);
        e.told("this week or this month or today", "in 9 day", "in 9 day");
        e.is("many READINGS of one event are one", e.x.busiest(), 3009);
        e.row("three", 3);
        e.told("jan 1 2000", "may 18 2027");
        e.is("DAY 0", e.x.busiest(), 0);
        e.told("may 18 2027", "may 18 2027", "jan 1 2000").x.date(77);
        e.is("DAY 9999", e.x.busiest(), 9999);
        e.row("two", 2);
        e.told("fri", "fri", "today").x.order(0, 0, 1);
        e.is("what is not LEFT does not count", e.x.busiest(), 2995);
        e.row("one each", 1);
    }

    private static void busiestNot() {
        Edge e = new Edge("Promise 22", "-2: no READING is LEFT.");
        e.is("no event is told", e.x.busiest(), -2);
        e.told("today", "tomorrow");
        e.is("busiest()", e.x.busiest(), 3000);
        e.x.order(0, 1, 0);
        e.is("no CHOICE", e.x.busiest(), -2);
        e.row("the row stays", 1);
    }

    private static void freeDays() {
        Edge e = new Edge("Promise 23", "From a DAY on the first of which no EVENT may have it, for n DAYS (1 .. 99) "
            + "one behind another: it.");
        // 2995, 2998 .. 3004, 3009 are not free.
        e.told("this week", "last fri", "in 9 day");
        e.is("a free DAY itself", e.x.free(2994, 1), 2994);
        e.is("two: not 2994, 2995", e.x.free(2994, 2), 2996);
        e.is("a DAY that is not", e.x.free(2995, 1), 2996);
        e.is("2996, 2997", e.x.free(2995, 2), 2996);
        e.is("2997", e.x.free(2997, 1), 2997);
        e.is("two: not 2997, 2998", e.x.free(2997, 2), 3005);
        e.is("three", e.x.free(2995, 3), 3005);
        e.is("3005 .. 3008", e.x.free(2995, 4), 3005);
        e.is("five", e.x.free(2995, 5), 3010);
        e.is("99", e.x.free(2995, 99), 3010);
        e.is("the last DAY of a READING", e.x.free(3004, 1), 3005);
        e.is("2896 .. 2994", e.x.free(2896, 99), 2896);
        e.is("2897 .. 2995 is not free", e.x.free(2897, 99), 3010);
        e.x.drops(2);
        e.is("3009 is free now", e.x.free(2995, 5), 3005);
        e.x.rules(0, 0, true);
        e.is("nothing is LEFT: all is free", e.x.free(2995, 99), 2995);
        // As many READINGS as there can be, on each second DAY from 3002 to 3072.
        e.fresh();
        for (int event = 0; event < 6; event++) {
            StringBuilder days = new StringBuilder("in " + (12 * event + 2) + " day");
            for (int i = 2; i <= 6; i++) {
                days.append(" or in ").append(12 * event + 2 * i).append(" day");
            }
            e.tells(event, -1, days.toString(), 6);
        }
        e.is("one", e.x.free(3002, 1), 3003);
        e.is("two behind all 36", e.x.free(3002, 2), 3073);
    }

    private static void freeNot() {
        Edge e = new Edge("Promise 23", "-2: none;");
        e.is("9901 .. 9999", e.x.free(9901, 99), 9901);
        e.is("behind 9999 there is none", e.x.free(9902, 99), -2);
        e.is("9999", e.x.free(9999, 1), 9999);
        e.is("9999, and none", e.x.free(9999, 2), -2);
        e.told("jan 2 2000 to may 17 2027");
        e.is("0", e.x.free(0, 1), 0);
        e.is("two", e.x.free(0, 2), -2);
        e.is("9999", e.x.free(1, 1), 9999);
        e.is("two", e.x.free(1, 2), -2);
        e.told("jan 1 2000 to may 18 2027");
        e.is("no DAY is free", e.x.free(0, 1), -2);
        e.is("no DAY is free", e.x.free(9999, 1), -2);
    }

    private static void freeOthers() {
        Edge e = new Edge("Promise 23", "NONE: others.");
        e.is("n 0", e.x.free(5, 0), -1);
        e.is("n 1", e.x.free(5, 1), 5);
        e.is("n 99", e.x.free(5, 99), 5);
        e.is("n 100", e.x.free(5, 100), -1);
        e.is("n below 0", e.x.free(5, -1), -1);
        e.is("n greatest", e.x.free(5, Integer.MAX_VALUE), -1);
        e.is("n least", e.x.free(5, Integer.MIN_VALUE), -1);
        e.is("DAY -1", e.x.free(-1, 1), -1);
        e.is("DAY 0", e.x.free(0, 1), 0);
        e.is("DAY 10000", e.x.free(10000, 1), -1);
        e.is("n 100 ahead of -2", e.x.free(9999, 100), -1);
        e.is("the row stays empty", e.x.count(7), 0);
    }
}
