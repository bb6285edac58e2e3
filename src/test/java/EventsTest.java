/**
 * Promises 1 and 6 to 35. At REF 3000 (a Wednesday) "fri" tells 3002 and 2995, "thu" 3001 and 2994, "sat" 3003 and
 * 2996, each with the WEIGHTS 3 and 1.
 */
public final class EventsTest {
    public static void main(String[] args) {
        newObject();
        days();
        dates();
        moves();
        readings();
        hulls();
        orders();
        kinds();
        choicesAndBest();
        ties();
        others();
        conflicts();
        withoutAndWith();
        asks();
        onADay();
        refs();
        rules();
        narrows();
        drops();
        goes();
        works();
        undos();
        years();
        keeps();
        counts();
        rowStays();
        Due.finish();
    }

    private static Due three(String about) {
        Due d = new Due(about);
        d.tells(0, -1, "fri", 2);
        d.tells(1, -1, "thu", 2);
        d.tells(2, -1, "sat", 2);
        return d;
    }

    private static void newObject() {
        Due d = new Due("promise 1");
        d.is("NONE", ProseDates.NONE, -1);
        for (int what = 0; what <= 8; what++) {
            d.is("count(" + what + ")", d.x.count(what), what == 2 ? 3000 : 0);
        }
        for (int event = 0; event < 6; event++) {
            d.is("readings(" + event + ")", d.x.readings(event), -2);
        }
        d.row("a new object");
        d.is("another object is its own", new ProseDates().sign(1), 4);
        d.is("count(8)", d.x.count(8), 0);
    }

    private static void days() {
        Due d = new Due("promise 6");
        d.is("day", d.x.day(2000, 1, 1), 0);
        d.is("day", d.x.day(2000, 12, 31), 365);
        d.is("day", d.x.day(2004, 2, 29), 1520);
        d.is("day", d.x.day(2024, 2, 29), 8825);
        d.is("day", d.x.day(2027, 5, 18), 9999);
        d.is("day", d.x.day(2027, 5, 19), -1);
        d.is("day", d.x.day(2027, 12, 31), -1);
        d.is("day", d.x.day(2028, 1, 1), -1);
        d.is("day", d.x.day(1999, 12, 31), -1);
        d.is("day", d.x.day(2002, 2, 29), -1);
        d.is("day", d.x.day(2002, 4, 31), -1);
        d.is("day", d.x.day(2002, 4, 0), -1);
        d.is("day", d.x.day(2002, 0, 1), -1);
        d.is("day", d.x.day(2002, 13, 1), -1);
        d.is("day", d.x.day(Integer.MIN_VALUE, Integer.MAX_VALUE, Integer.MIN_VALUE), -1);
        d.is("day", d.x.day(2002, 1, Integer.MAX_VALUE), -1);
        d.is("day", d.x.day(Integer.MAX_VALUE, 1, 1), -1);
        d.row("day");
    }

    private static void dates() {
        Due d = new Due("promise 7");
        d.is("date(59)", d.x.date(59), 2000);
        d.row("date(59)", 2, 29, 1);
        d.is("date(366)", d.x.date(366), 2001);
        d.row("date(366)", 1, 1, 0);
        d.is("date(9999)", d.x.date(9999), 2027);
        d.row("date(9999)", 5, 18, 1);
        d.is("date(-1)", d.x.date(-1), -1);
        d.is("date(10000)", d.x.date(10000), -1);
        d.row("date(10000)", 5, 18, 1);
        for (int day = 0; day <= 9999; day++) {
            if (day % 100 == 0) {
                d.x = new ProseDates();
            }
            int year = d.x.date(day);
            d.is("there and back", d.x.day(year, (int) d.x.row(0), (int) d.x.row(1)), day);
            d.is("the day of the week", d.x.row(2), (day + 5) % 7);
        }
    }

    private static void moves() {
        Due d = new Due("promise 8");
        d.is("moved", d.x.moved(3000, 0, -3000), 0);
        d.is("moved", d.x.moved(3000, 0, -3001), -2);
        d.is("moved", d.x.moved(3000, 0, 6999), 9999);
        d.is("moved", d.x.moved(3000, 0, 7000), -2);
        d.is("moved", d.x.moved(3000, 0, 0), 3000);
        d.is("moved", d.x.moved(3000, 1, -1), 2993);
        d.is("moved", d.x.moved(2952, 2, 1), 2981);
        d.is("moved", d.x.moved(2952, 2, 13), 3346);
        d.is("moved", d.x.moved(2981, 3, 1), 3346);
        d.is("moved", d.x.moved(2981, 3, -4), 1520);
        d.is("moved", d.x.moved(30, 2, -1), -2);
        d.is("moved", d.x.moved(9999, 2, 1), -2);
        d.is("moved", d.x.moved(0, 2, 328), 9982);
        d.is("moved", d.x.moved(0, 2, 329), -2);
        d.is("moved", d.x.moved(0, 3, 9999), -2);
        d.is("moved", d.x.moved(9999, 3, -9999), -2);
        d.is("moved", d.x.moved(0, 1, 9999), -2);
        d.is("moved", d.x.moved(0, 0, 9999), 9999);
        d.is("moved", d.x.moved(0, 0, 10000), -1);
        d.is("moved", d.x.moved(0, 0, -10000), -1);
        d.is("moved", d.x.moved(-1, 0, 1), -1);
        d.is("moved", d.x.moved(10000, 0, -1), -1);
        d.is("moved", d.x.moved(5, -1, 1), -1);
        d.is("moved", d.x.moved(5, 4, 1), -1);
        d.is("moved", d.x.moved(5, 2, Integer.MIN_VALUE), -1);
    }

    private static void readings() {
        Due d = three("promises 9, 10");
        d.x.order(0, 0, 1);
        d.is("readings(0)", d.x.readings(0), 2);
        d.row("readings(0)", 3, 2);
        d.is("readings(1)", d.x.readings(1), 2);
        d.row("readings(1)", 3, 1);
        d.x.rules(2, 0, true);
        d.is("readings(2)", d.x.readings(2), 2);
        d.row("readings(2)", 2, 2);
        d.is("readings(3)", d.x.readings(3), -2);
        d.is("readings(6)", d.x.readings(6), -1);
        d.is("readings(-1)", d.x.readings(-1), -1);
        d.row("readings(-1)", 2, 2);
        int[][] want = {{3003, 3003, 0, 3, 0}, {2996, 2996, 0, 1, 1}};
        for (int i = 0; i < 2; i++) {
            for (int what = 0; what < 5; what++) {
                d.is("reading(2, " + i + ", " + what + ")", d.x.reading(2, i, what), want[i][what]);
            }
        }
        d.readingThrows(2, 2, 0);
        d.readingThrows(2, -1, 0);
        d.readingThrows(2, 0, 5);
        d.readingThrows(2, 0, -1);
        d.readingThrows(3, 0, 0);
        d.readingThrows(6, 0, 0);
        d.readingThrows(-1, 0, 0);
        d.readingThrows(Integer.MAX_VALUE, Integer.MAX_VALUE, Integer.MAX_VALUE);
        d.x.drops(2);
        d.readingThrows(2, 0, 0);
    }

    private static void hulls() {
        Due d = three("promise 11");
        d.is("hull(0)", d.x.hull(0), 8);
        d.row("hull(0)", 2995, 3002);
        d.x.order(0, 0, 1);
        d.is("hull(0)", d.x.hull(0), 1);
        d.row("hull(0)", 2995, 2995);
        d.is("hull(3)", d.x.hull(3), -2);
        d.is("hull(6)", d.x.hull(6), -1);
        d.is("hull(-1)", d.x.hull(-1), -1);
        d.x.order(0, 1, 0);
        d.is("hull(2)", d.x.hull(2), -2);
        d.row("hull(2)", 2995, 2995);
        Due e = new Due("promise 11, spans");
        e.tells(4, -1, "this week or early next month", 2);
        e.is("hull(4)", e.x.hull(4), 25);
        e.row("hull(4)", 2998, 3022);
    }

    private static void orders() {
        Due d = new Due("promise 12");
        d.is("order", d.x.order(0, 0, 1), 0);
        d.is("order", d.x.order(0, 1, 0), 1);
        d.is("order", d.x.order(4, 5, 0), 2);
        d.is("order", d.x.order(0, 0, 1), -2);
        d.is("order", d.x.order(0, 2, 2), -1);
        d.is("order", d.x.order(-1, 0, 1), -1);
        d.is("order", d.x.order(5, 0, 1), -1);
        d.is("order", d.x.order(0, -1, 1), -1);
        d.is("order", d.x.order(0, 0, 6), -1);
        for (int i = 3; i < 8; i++) {
            d.is("order", d.x.order(1, i - 3, 5), i);
        }
        d.is("order", d.x.order(2, 5, 4), 8);
        d.is("order", d.x.order(3, 5, 4), 9);
        d.is("the eleventh", d.x.order(3, 5, 0), -3);
        d.is("it is there, though there are ten", d.x.order(0, 0, 1), -2);
        d.is("no such, though there are ten", d.x.order(0, 0, 0), -1);
        d.is("count(1)", d.x.count(1), 10);
        d.is("told(0)", d.x.told(0), 1);
        d.row("told(0)", 2, 0);
        d.is("told(2)", d.x.told(2), 450);
        d.is("told(10)", d.x.told(10), -1);
        d.is("told(-1)", d.x.told(-1), -1);
        d.row("told(-1)", 2, 0);
    }

    /** Whether an ORDER holds for x from March 10 to 12 and y as told. */
    private static void kind(int kind, int from, int to, int holds) {
        Due d = new Due("kind " + kind + ", y from " + from + " to " + to);
        d.tells(0, -1, "mar 10 2008 to mar 12 2008", 1);
        d.tells(1, -1, "mar " + from + " 2008 to mar " + to + " 2008", 1);
        d.x.order(kind, 0, 1);
        d.is("told(0)", d.x.told(0), 100 * kind + 1);
        d.row("told(0)", holds == 1 ? 1 : 2, holds);
        d.is("choices()", d.x.choices(), holds);
        d.row("choices()", 1);
    }

    private static void kinds() {
        kind(0, 12, 14, 0);
        kind(0, 13, 14, 1);
        kind(0, 1, 9, 0);
        kind(1, 12, 14, 1);
        kind(1, 13, 14, 0);
        kind(1, 8, 10, 1);
        kind(1, 8, 9, 0);
        kind(1, 1, 31, 1);
        kind(1, 11, 11, 1);
        kind(2, 10, 12, 1);
        kind(2, 9, 13, 1);
        kind(2, 11, 12, 0);
        kind(2, 10, 11, 0);
        kind(3, 10, 31, 1);
        kind(3, 9, 12, 0);
        kind(3, 11, 12, 0);
        kind(4, 19, 20, 1);
        kind(4, 20, 20, 0);
        kind(4, 1, 3, 1);
        kind(4, 1, 2, 0);
        kind(4, 11, 11, 1);
        kind(4, 1, 31, 1);
    }

    private static void choicesAndBest() {
        Due d = three("promises 13, 14, 15");
        d.is("choices()", d.x.choices(), 8);
        d.row("choices()", 8);
        d.is("best()", d.x.best(), 9);
        d.row("best()", 0, 0, 0, -1, -1, -1);
        d.x.order(0, 0, 1);
        d.is("choices()", d.x.choices(), 2);
        d.row("choices()", 8);
        d.is("best()", d.x.best(), 7);
        d.row("best()", 1, 0, 0, -1, -1, -1);
        d.is("told(0)", d.x.told(0), 1);
        d.row("told(0)", 1, 1);
        d.x.order(1, 3, 4);
        d.is("of events that are not told", d.x.told(1), 134);
        d.row("told(1)", 1, 0);
        d.x.order(1, 0, 4);
        d.is("of one that is not told", d.x.told(2), 104);
        d.row("told(2)", 1, 0);
        d.is("those hold", d.x.choices(), 2);
        d.x.order(0, 1, 0);
        d.is("choices()", d.x.choices(), 0);
        d.row("choices()", 8);
        d.is("best()", d.x.best(), -2);
        d.is("told(0)", d.x.told(0), 1);
        d.row("told(0)", 2, 1);
        d.is("told(3)", d.x.told(3), 10);
        d.row("told(3)", 2, 3);
        d.x.rules(0, 0, true);
        d.is("told(3)", d.x.told(3), 10);
        d.row("pairs that are in", 2, 1);
        d.x.rules(0, 1, true);
        d.is("choices()", d.x.choices(), 0);
        d.row("choices()", 0);
        Due e = new Due("promise 14, many");
        for (int event = 0; event < 6; event++) {
            e.tells(event, -1, "mon or tue or wed", 6);
        }
        e.is("choices()", e.x.choices(), 46656);
        e.row("choices()", 46656);
    }

    private static void ties() {
        Due d = new Due("promise 15, equal ones");
        d.tells(1, -1, "yesterday or today or tomorrow", 3);
        d.tells(3, -1, "yesterday or today or tomorrow", 3);
        d.is("best()", d.x.best(), 6);
        d.row("the first of equal ones", -1, 0, -1, 0, -1, -1);
        d.x.order(0, 3, 1);
        d.is("best()", d.x.best(), 6);
        d.row("the first of equal ones", -1, 1, -1, 0, -1, -1);
        d.is("other()", d.x.other(), 6);
        d.row("other()", -1, 2, -1, 1, -1, -1);
        d.x.goes(0);
        d.is("other()", d.x.other(), 6);
        d.row("the first other one", -1, 1, -1, 1, -1, -1);
    }

    private static void others() {
        Due d = three("promise 16");
        d.is("other()", d.x.other(), 3);
        d.row("other()", 1, 1, 1, -1, -1, -1);
        d.x.order(0, 0, 1);
        d.is("in the events that are open alone", d.x.other(), 5);
        d.row("other()", 1, 0, 1, -1, -1, -1);
        d.x.rules(2, 1, true);
        d.is("one choice alone", d.x.other(), -2);
        d.row("other()", 1, 0, 1, -1, -1, -1);
        d.x.order(0, 1, 0);
        d.is("no choice", d.x.other(), -2);
        Due e = new Due("promise 16, none that differs in all");
        e.tells(0, -1, "today or tomorrow or in 2 day", 3);
        e.tells(1, -1, "today or tomorrow", 2);
        e.tells(2, -1, "today or tomorrow", 2);
        e.x.order(3, 0, 1);
        e.is("choices()", e.x.choices(), 4);
        e.is("other()", e.x.other(), 9);
        e.row("other()", 1, 1, 1, -1, -1, -1);
        Due f = new Due("promise 16, none");
        f.tells(0, -1, "today or tomorrow", 2);
        f.tells(1, -1, "today or tomorrow or in 2 day", 3);
        f.tells(2, -1, "today or tomorrow or in 2 day", 3);
        f.x.order(0, 0, 1);
        f.x.order(0, 0, 2);
        f.x.rules(2, 2, true);
        f.is("choices()", f.x.choices(), 2);
        f.is("best()", f.x.best(), 9);
        f.row("best()", 0, 1, 1, -1, -1, -1);
        f.is("other()", f.x.other(), 9);
        f.row("other()", 0, 2, 1, -1, -1, -1);
    }

    private static void conflicts() {
        Due d = new Due("promise 17");
        d.is("no event is told", d.x.conflict(), -3);
        d.tells(0, -1, "mar 10 2008", 1);
        d.tells(1, -1, "mar 11 2008", 1);
        d.is("there is a choice", d.x.conflict(), -2);
        d.x.order(0, 1, 0);
        d.x.order(0, 0, 1);
        d.x.order(3, 0, 1);
        d.is("conflict()", d.x.conflict(), 5);
        d.row("conflict()", 1);
        d.tells(4, -1, "fri", 2);
        d.is("conflict()", d.x.conflict(), 5);
        d.row("with the readings of another event", 2);
        d.x.rules(4, 0, true);
        d.x.rules(4, 1, true);
        d.is("an event has none that is in", d.x.conflict(), -3);
        d.row("conflict()", 2);
        Due e = new Due("promise 17, equal ones");
        e.tells(2, -1, "fri", 2);
        e.tells(5, -1, "fri", 2);
        e.x.order(1, 0, 1);
        e.x.order(0, 5, 2);
        e.x.order(0, 2, 5);
        e.is("the least number", e.x.conflict(), 2);
        e.row("conflict()", 1);
        e.x.order(3, 2, 5);
        e.is("two at least", e.x.conflict(), 6);
        e.row("conflict()", 2);
    }

    private static void withoutAndWith() {
        Due d = three("promises 18, 19");
        d.x.order(0, 0, 1);
        d.is("without(0)", d.x.without(0), 8);
        d.row("without(0)", 2);
        d.is("without(1)", d.x.without(1), -1);
        d.is("without(-1)", d.x.without(-1), -1);
        d.is("with(0, 2, 0)", d.x.with(0, 2, 0), 0);
        d.row("with(0, 2, 0)", 4);
        d.is("with(0, 0, 2)", d.x.with(0, 0, 2), 2);
        d.row("with(0, 0, 2)", 0);
        d.is("with(0, 1, 2)", d.x.with(0, 1, 2), 1);
        d.row("with(0, 1, 2)", 1);
        d.is("with(0, 0, 1)", d.x.with(0, 0, 1), -2);
        d.is("with(0, 0, 0)", d.x.with(0, 0, 0), -1);
        d.is("with(5, 0, 1)", d.x.with(5, 0, 1), -1);
        d.is("with(0, 6, 1)", d.x.with(0, 6, 1), -1);
        d.row("they leave the row", 1);
        d.is("nothing is changed", d.x.count(1), 1);
        d.x.order(0, 2, 0);
        d.is("without(0)", d.x.without(0), 2);
        d.row("without(0)", 4);
        d.is("without(1)", d.x.without(1), 2);
        d.row("without(1)", 4);
        for (int k = 0; k < 5; k++) {
            d.x.order(k, 3, 4);
            d.x.order(k, 4, 5);
        }
        d.is("ten", d.x.count(1), 10);
        d.x.goes(1);
        d.x.order(4, 5, 3);
        d.is("with ten there", d.x.with(0, 1, 2), 1);
        d.row("with ten there", 1);
    }

    private static void asks() {
        Due d = new Due("promise 20");
        d.is("asks()", d.x.asks(), -2);
        d.tells(1, -1, "fri", 2);
        d.tells(3, -1, "mon or tue", 4);
        d.tells(4, -1, "mon or tue", 4);
        d.is("the first of those that leave fewest", d.x.asks(), 3);
        d.row("asks()", 8);
        d.x.order(0, 1, 4);
        d.is("choices()", d.x.choices(), 24);
        d.is("asks()", d.x.asks(), 3);
        d.row("asks()", 6);
        d.x.rules(3, 0, true);
        d.x.rules(3, 1, true);
        d.x.rules(3, 2, true);
        d.is("one with one reading is none", d.x.asks(), 4);
        d.row("asks()", 2);
        d.tells(4, -1, "today", 1);
        d.is("asks()", d.x.asks(), -2);
        d.row("asks()", 2);
    }

    private static void onADay() {
        Due d = three("promises 21, 22, 23");
        d.x.order(0, 0, 1);
        d.is("on(2995)", d.x.on(2995), 1);
        d.row("on(2995)", 1);
        d.is("on(2996)", d.x.on(2996), 4);
        d.row("on(2996)", 0);
        d.is("on(3002)", d.x.on(3002), 0);
        d.row("on(3002)", 0);
        d.is("on(10000)", d.x.on(10000), -1);
        d.is("on(-1)", d.x.on(-1), -1);
        d.is("busiest()", d.x.busiest(), 2995);
        d.row("busiest()", 1);
        d.is("free", d.x.free(2995, 1), 2997);
        d.is("free", d.x.free(2995, 4), 2997);
        d.is("free", d.x.free(2995, 5), 3004);
        d.is("free", d.x.free(2990, 5), 2990);
        d.is("free", d.x.free(2991, 5), 3004);
        d.is("free", d.x.free(9901, 99), 9901);
        d.is("free", d.x.free(9902, 99), -2);
        d.is("free", d.x.free(9999, 1), 9999);
        d.is("free", d.x.free(10000, 1), -1);
        d.is("free", d.x.free(-1, 1), -1);
        d.is("free", d.x.free(5, 0), -1);
        d.is("free", d.x.free(5, 100), -1);
        d.tells(3, -1, "this week", 1);
        d.tells(4, -1, "this month", 1);
        d.is("on(3001)", d.x.on(3001), 26);
        d.row("on(3001)", 26);
        d.is("on(3003)", d.x.on(3003), 28);
        d.row("on(3003)", 24);
        d.is("busiest()", d.x.busiest(), 3001);
        d.row("busiest()", 3);
        d.is("free", d.x.free(2981, 1), 2981);
        d.is("free", d.x.free(2981, 2), 3013);
        d.tells(5, -1, "may 1 2008 to may 18 2027", 1);
        d.is("free", d.x.free(3013, 30), 3013);
        d.is("free", d.x.free(3013, 31), -2);
        d.x.order(0, 1, 0);
        d.is("no choice: busiest()", d.x.busiest(), -2);
        d.is("no choice: on()", d.x.on(3001), 0);
        d.row("on()", 0);
        d.is("no choice: free()", d.x.free(3001, 99), 3001);
    }

    private static void refs() {
        Due d = new Due("promise 24");
        d.is("ref", d.x.ref(0), 3000);
        d.is("ref", d.x.ref(0), -2);
        d.is("ref", d.x.ref(9999), 0);
        d.is("ref", d.x.ref(10000), -1);
        d.is("ref", d.x.ref(-1), -1);
        d.is("count(2)", d.x.count(2), 9999);
        d.is("count(6)", d.x.count(6), 2);
    }

    private static void rules() {
        Due d = three("promise 25");
        d.is("rules", d.x.rules(0, 0, false), -2);
        d.is("rules", d.x.rules(0, 0, true), 1);
        d.is("rules", d.x.rules(0, 0, true), -2);
        d.is("rules", d.x.rules(0, 1, true), 0);
        d.is("choices()", d.x.choices(), 0);
        d.is("rules", d.x.rules(0, 1, false), 1);
        d.is("choices()", d.x.choices(), 4);
        d.is("rules", d.x.rules(0, 2, true), -1);
        d.is("rules", d.x.rules(0, -1, true), -1);
        d.is("rules", d.x.rules(3, 0, true), -1);
        d.is("rules", d.x.rules(6, 0, true), -1);
        d.is("rules", d.x.rules(-1, 0, false), -1);
        d.is("count(4)", d.x.count(4), 5);
    }

    private static void narrows() {
        Due d = three("promise 26");
        d.is("narrows()", d.x.narrows(), -2);
        d.x.order(0, 0, 1);
        d.x.rules(2, 1, true);
        d.is("narrows()", d.x.narrows(), 2);
        d.is("count(4)", d.x.count(4), 3);
        d.is("narrows()", d.x.narrows(), -2);
        d.x.goes(0);
        d.is("they stay out", d.x.choices(), 1);
        d.x.order(0, 1, 0);
        d.is("narrows()", d.x.narrows(), -3);
        d.is("none is told", new ProseDates().narrows(), -3);
    }

    private static void drops() {
        Due d = three("promise 27");
        d.x.order(0, 0, 1);
        d.is("drops(1)", d.x.drops(1), 2);
        d.is("drops(1)", d.x.drops(1), -2);
        d.is("drops(6)", d.x.drops(6), -1);
        d.is("drops(-1)", d.x.drops(-1), -1);
        d.is("count(0)", d.x.count(0), 5);
        d.is("count(3)", d.x.count(3), 4);
        d.is("choices()", d.x.choices(), 4);
        d.is("the order stays", d.x.count(1), 1);
        d.is("drops(0)", d.x.drops(0), 1);
        d.is("drops(2)", d.x.drops(2), 0);
        d.is("choices()", d.x.choices(), 0);
        d.tells(1, -1, "thu", 2);
        d.tells(0, -1, "fri", 2);
        d.is("the order holds again", d.x.choices(), 1);
    }

    private static void goes() {
        Due d = new Due("promise 28");
        d.x.order(0, 0, 1);
        d.x.order(1, 1, 2);
        d.x.order(2, 2, 3);
        d.is("goes(3)", d.x.goes(3), -1);
        d.is("goes(-1)", d.x.goes(-1), -1);
        d.is("goes(1)", d.x.goes(1), 2);
        d.is("told(1)", d.x.told(1), 223);
        d.is("told(2)", d.x.told(2), -1);
        d.is("order", d.x.order(1, 1, 2), 2);
        d.is("goes(2)", d.x.goes(2), 2);
        d.is("goes(0)", d.x.goes(0), 1);
        d.is("goes(0)", d.x.goes(0), 0);
        d.is("goes(0)", d.x.goes(0), -1);
    }

    private static void works() {
        Due d = three("promise 29");
        d.work("", 0);
        d.row("nothing", 0, 8);
        d.is("nothing to undo", d.x.count(6), 3);
        d.work("o001nr20f2500", 4);
        d.row("all", 0, 1);
        d.is("count(2)", d.x.count(2), 2500);
        d.is("count(4)", d.x.count(4), 3);
        d.is("one more to undo", d.x.count(6), 4);
        d.work("i20i20d0", 1);
        d.row("one could not be", 1, 2);
        d.is("count(0)", d.x.count(0), 7);
        d.work("f2500", 0);
        d.row("none was done", 1, 2);
        d.is("none to undo", d.x.count(6), 5);
        d.work("g0d0d1", 3);
        d.row("all", 0, 2);
        d.work("n", 0);
        d.row("narrows() answers -2", 1, 2);
        String[] wrong = {"x", "o", "o0", "o00", "o00x", "g", "r0", "i", "d", "f123", "o001 g0", "nn?", "O001", "n9"};
        int[] at = {0, 1, 2, 3, 3, 1, 2, 1, 1, 4, 4, 2, 0, 1};
        for (int i = 0; i < wrong.length; i++) {
            d.work(wrong[i], -1 - at[i]);
        }
        d.row("they leave the row", 1, 2);
        d.work("d2x", -3);
        d.is("nothing is done then", d.x.count(0), 4);
        d.work("o900", 0);
        d.work("o001o001", 1);
        d.is("undo()", d.x.undo(), 6);
        d.is("undo()", d.x.undo(), 5);
        d.is("it is undone as one", d.x.count(0), 7);
        d.is("undo()", d.x.undo(), 4);
        d.is("undo()", d.x.undo(), 3);
        d.is("count(2)", d.x.count(2), 3000);
        d.is("count(4)", d.x.count(4), 6);
        d.work("o012o023o034o045o123o134o145o234o245o345o201n", 10);
        d.row("the eleventh could not be", 1, 6);
    }

    private static void undos() {
        Due d = new Due("promise 30");
        d.is("undo()", d.x.undo(), -1);
        for (int i = 1; i <= 10; i++) {
            d.x.ref(i);
            d.is("count(6)", d.x.count(6), Math.min(i, 8));
        }
        for (int i = 9; i >= 2; i--) {
            d.is("undo()", d.x.undo(), i - 2);
            d.is("count(2)", d.x.count(2), i);
        }
        d.is("undo()", d.x.undo(), -1);
        d.tells(0, -1, "today or tomorrow", 2);
        d.tells(0, -1, "today", 1);
        d.x.order(0, 0, 1);
        d.x.order(1, 0, 1);
        d.x.goes(0);
        d.x.drops(0);
        d.text("left");
        d.x.date(77);
        d.is("undo()", d.x.undo(), 5);
        d.is("count(0)", d.x.count(0), 1);
        d.is("undo()", d.x.undo(), 4);
        d.is("told(0)", d.x.told(0), 1);
        d.is("undo()", d.x.undo(), 3);
        d.is("undo()", d.x.undo(), 2);
        d.is("count(1)", d.x.count(1), 0);
        d.is("undo()", d.x.undo(), 1);
        d.is("count(3)", d.x.count(3), 2);
        d.x.rules(0, 1, true);
        d.is("undo()", d.x.undo(), 1);
        d.is("count(4)", d.x.count(4), 2);
        d.is("undo()", d.x.undo(), 0);
        d.is("count(0)", d.x.count(0), 0);
        d.is("THE TEXT stays", d.x.count(8), 4);
        Due e = three("promise 30, narrows");
        e.x.order(0, 0, 1);
        e.x.narrows();
        e.is("undo()", e.x.undo(), 4);
        e.is("count(4)", e.x.count(4), 6);
        e.x.choices();
        e.is("undo()", e.x.undo(), 3);
        e.is("choices()", e.x.choices(), 8);
        e.is("years is not to be undone", e.x.years(1, 5) >= 0 && e.x.count(6) == 3, true);
    }

    private static void years() {
        for (int seed : new int[] {0, 1, -1, 77, Integer.MIN_VALUE, 123456789}) {
            for (int n : new int[] {1, 7, 20}) {
                Due d = three("promise 31, seed " + seed);
                Due hand = three("by hand");
                d.x.order(4, 0, 1);
                hand.x.order(4, 0, 1);
                long r = Integer.toUnsignedLong(seed);
                for (int i = 0; i < n; i++) {
                    int[] drawn = new int[3];
                    for (int k = 0; k < 3; k++) {
                        r = (r * 1103515245L + 12345L) & 0xffffffffL;
                        drawn[k] = (int) (r / 65536 % (k == 0 ? 5 : 6));
                    }
                    hand.x.order(drawn[0], drawn[1], drawn[2]);
                }
                d.is("years(" + seed + ", " + n + ")", d.x.years(seed, n), hand.x.choices());
                d.row("years", hand.x.count(1), hand.x.count(5));
                d.is("it is forgotten", d.x.count(1), 1);
                d.is("it is forgotten", d.x.choices(), 6);
                d.is("years(1, 0)", d.x.years(1, 0), -1);
                d.is("years(1, 21)", d.x.years(1, 21), -1);
                d.row("they leave the row", 8);
            }
        }
    }

    private static void keeps() {
        Due d = three("promises 32, 33");
        d.x.order(0, 0, 1);
        d.is("again(0)", d.x.again(0), false);
        d.is("again(-1)", d.x.again(-1), false);
        d.is("again(2)", d.x.again(2), false);
        d.is("nothing is forgotten", d.x.count(6), 4);
        d.is("keep(-1)", d.x.keep(-1), false);
        d.is("keep(2)", d.x.keep(2), false);
        d.is("keep(1)", d.x.keep(1), true);
        d.is("again(33)", d.x.again(33), false);
        d.is("again(-31)", d.x.again(-31), false);
        d.is("keep(33)", d.x.keep(33), false);
        d.x.narrows();
        d.x.drops(2);
        d.x.ref(7);
        d.x.goes(0);
        d.is("keep(0)", d.x.keep(0), true);
        d.is("count(6)", d.x.count(6), 8);
        d.is("again(1)", d.x.again(1), true);
        d.is("count(6)", d.x.count(6), 0);
        d.is("undo()", d.x.undo(), -1);
        d.is("count(0)", d.x.count(0), 7);
        d.is("count(1)", d.x.count(1), 1);
        d.is("count(2)", d.x.count(2), 3000);
        d.is("count(4)", d.x.count(4), 6);
        d.is("choices()", d.x.choices(), 2);
        d.x.drops(0);
        d.x.undo();
        d.is("again(0)", d.x.again(0), true);
        d.is("count(0)", d.x.count(0), 3);
        d.is("count(1)", d.x.count(1), 0);
        d.is("count(2)", d.x.count(2), 7);
        d.is("count(4)", d.x.count(4), 2);
        d.x.rules(0, 0, false);
        d.is("what was kept stays as it was", d.x.again(0) && d.x.count(4) == 2, true);
        d.is("keep(0) anew", d.x.ref(8) == 7 && d.x.keep(0) && d.x.ref(9) == 8 && d.x.again(0), true);
        d.is("count(2)", d.x.count(2), 8);
    }

    private static void counts() {
        Due d = three("promise 34");
        d.x.order(0, 0, 1);
        d.x.rules(2, 0, true);
        d.x.ref(5);
        d.x.date(5);
        d.x.sign(0);
        int[] want = {7, 1, 5, 6, 5, 3, 6, 3, 4};
        for (int what = 0; what < want.length; what++) {
            d.is("count(" + what + ")", d.x.count(what), want[what]);
        }
        d.is("count(9)", d.x.count(9), -1);
        d.is("count(-1)", d.x.count(-1), -1);
    }

    private static void rowStays() {
        Due d = three("promise 35");
        d.row("none yet");
        d.x.order(0, 0, 1);
        d.x.order(0, 1, 0);
        d.is("date(59)", d.x.date(59), 2000);
        d.x.readings(4);
        d.x.hull(0);
        d.x.told(2);
        d.x.best();
        d.x.other();
        d.x.without(2);
        d.x.with(0, 0, 1);
        d.x.asks();
        d.x.busiest();
        d.x.years(1, 0);
        d.x.narrows();
        d.text("x").x.work();
        d.text("2027").x.means(3000);
        d.x.reading(0, 0, 0);
        d.x.undo();
        d.x.conflict();
        d.x.ref(4);
        d.x.count(5);
        d.x.free(4, 4);
        d.x.moved(4, 2, 4);
        d.row("refusals and calls that do not tell of the row leave it", 2, 29, 1);
        d.rowThrows(3);
        d.rowThrows(Integer.MAX_VALUE);
        d.rowThrows(Integer.MIN_VALUE);
    }
}
