/** Edges of orders and choices: promises 12 to 19, and the ORDERS and CHOICES of term 1. */
final class OrderEdges {
    private static final int MAR_10 = 2991;

    static void all() {
        tenAtMost();
        unlikeEvents();
        whollyAhead();
        aDayTogether();
        allDaysIn();
        fromIsAlike();
        sevenDays();
        notToldHold();
        oneReadingOfEach();
        oneAheadOfAnother();
        weightsTogether();
        left();
        behindAll();
        orderIsThere();
        orderNot();
        toldOrder();
        holdsInBest();
        pairs();
        toldNot();
        howManyChoices();
        noEventIsTold();
        best();
        bestNot();
        differsInEach();
        otherNot();
        fewestOrders();
        leastNumber();
        conflictThere();
        conflictByNone();
        withoutOne();
        withoutNot();
        withOneMore();
        withNot();
    }

    private static void tenAtMost() {
        Edge e = new Edge("Term 1", "ORDERS 0, 1, .. (10 at most)");
        e.tenOrders();
        e.counts(1, 10);
        e.is("the last of ten", e.x.told(9), 445);
        e.is("the eleventh", e.x.order(0, 0, 1), -3);
        e.is("told(10)", e.x.told(10), -1);
        e.counts(1, 10);
        e.x.goes(0);
        e.is("the tenth again", e.x.order(0, 0, 1), 9);
        e.is("the eleventh", e.x.order(0, 0, 2), -3);
    }

    private static void unlikeEvents() {
        Edge e = new Edge("Term 1", "of two unlike EVENTS x and y");
        for (int kind = 0; kind < 5; kind++) {
            e.is("order of 2 and 2", e.x.order(kind, 2, 2), -1);
            e.is("with 2 and 2", e.x.with(kind, 2, 2), -1);
            e.is("order of 2 and 3", e.x.order(kind, 2, 3), kind);
        }
    }

    /** x is from March 10 to 12, 2008, y from so many days behind its begin to so many. */
    private static void holds(Edge e, int kind, int from, int to, boolean want) {
        e.told(Edge.span(MAR_10, MAR_10 + 2), Edge.span(MAR_10 + from, MAR_10 + to));
        e.is("order", e.x.order(kind, 0, 1), 0);
        String about = "y from " + from + " to " + to;
        e.is(about, e.x.choices(), want ? 1 : 0);
        e.is(about, e.x.told(0), 100 * kind + 1);
        e.row(about, want ? 1 : 2, want ? 1 : 0);
    }

    private static void whollyAhead() {
        Edge e = new Edge("Term 1", "kind 0 x is wholly ahead of y");
        holds(e, 0, 1, 5, false);
        holds(e, 0, 2, 5, false);
        holds(e, 0, 3, 5, true);
        holds(e, 0, 3, 3, true);
        holds(e, 0, 100, 100, true);
        holds(e, 0, -5, -1, false);
        holds(e, 0, 0, 2, false);
    }

    private static void aDayTogether() {
        Edge e = new Edge("Term 1", "1 x and y have a DAY together");
        holds(e, 1, 3, 5, false);
        holds(e, 1, 2, 5, true);
        holds(e, 1, -3, -1, false);
        holds(e, 1, -3, 0, true);
        holds(e, 1, 1, 1, true);
        holds(e, 1, -9, 9, true);
        holds(e, 1, 0, 2, true);
    }

    private static void allDaysIn() {
        Edge e = new Edge("Term 1", "2 all DAYS of x are in y");
        holds(e, 2, 0, 2, true);
        holds(e, 2, -1, 3, true);
        holds(e, 2, 1, 2, false);
        holds(e, 2, 0, 1, false);
        holds(e, 2, 1, 3, false);
        holds(e, 2, -1, 1, false);
        holds(e, 2, 1, 1, false);
    }

    private static void fromIsAlike() {
        Edge e = new Edge("Term 1", "3 FROM of both is alike");
        holds(e, 3, 0, 2, true);
        holds(e, 3, 0, 0, true);
        holds(e, 3, 0, 9, true);
        holds(e, 3, -1, 2, false);
        holds(e, 3, 1, 2, false);
    }

    private static void sevenDays() {
        Edge e = new Edge("Term 1", "4 from TO of x to FROM of y (or from TO of y to FROM of x) it is 7 DAYS at most, "
            + "or they have a DAY together.");
        // TO of x is 2 days behind its begin.
        holds(e, 4, 3, 30, true);
        holds(e, 4, 8, 30, true);
        holds(e, 4, 9, 30, true);
        holds(e, 4, 10, 30, false);
        holds(e, 4, 100, 100, false);
        holds(e, 4, -30, -1, true);
        holds(e, 4, -30, -6, true);
        holds(e, 4, -30, -7, true);
        holds(e, 4, -30, -8, false);
        holds(e, 4, -100, -100, false);
        holds(e, 4, -30, 30, true);
        holds(e, 4, 1, 1, true);
        holds(e, 4, 2, 60, true);
        holds(e, 4, -60, 0, true);
    }

    private static void notToldHold() {
        Edge e = new Edge("Term 1", "ORDERS of EVENTS that are not told hold.");
        e.told("today", "today");
        for (int kind = 0; kind < 5; kind++) {
            e.x.order(kind, 2, 3);
            e.x.order(kind, 0, 2);
        }
        e.is("neither, and one of them", e.x.choices(), 1);
        e.tells(2, -1, "today", 1);
        e.is("both are told: kind 0 does not hold", e.x.choices(), 0);
        e.x.drops(2);
        e.is("one is not told again", e.x.choices(), 1);
        e.x.drops(0);
        e.is("none of them is told", e.x.choices(), 1);
        e.told("today", "tomorrow");
        e.x.order(3, 0, 5);
        e.x.order(3, 5, 0);
        e.x.order(0, 1, 0);
        e.is("they are not among those that contradict", e.x.conflict(), 4);
    }

    private static void oneReadingOfEach() {
        Edge e = new Edge("Term 1",
            "CHOICE: one READING that is in of each EVENT that is told, by which all ORDERS hold;");
        e.three();
        e.is("two of each", e.x.choices(), 8);
        e.x.rules(0, 0, true);
        e.is("one is out", e.x.choices(), 4);
        e.x.order(0, 0, 1);
        e.is("2995 ahead of 3001 alone", e.x.choices(), 2);
        e.x.order(0, 2, 1);
        e.is("2996 ahead of 3001", e.x.choices(), 1);
        e.x.rules(0, 1, true);
        e.is("none is in", e.x.choices(), 0);
        e.x.drops(0);
        e.is("without event 0: 2996, 3001", e.x.choices(), 1);
    }

    private static void oneAheadOfAnother() {
        Edge e = new Edge("Term 1", "by EVENTS, then by numbers of READINGS, one is ahead of another one.");
        // All have the WORTH 6: BEST is the first of them.
        e.told("today or in 20 day", "in 20 day or today");
        e.is("best()", e.x.best(), 6);
        e.row("(0, 0) ahead of all", 0, 0, -1, -1, -1, -1);
        e.x.order(3, 0, 1);
        e.is("best()", e.x.best(), 6);
        e.row("(0, 1) ahead of (1, 0)", 0, 1, -1, -1, -1, -1);
        e.is("other()", e.x.other(), 6);
        e.row("(1, 0)", 1, 0, -1, -1, -1, -1);
        e.told("today", "today or tomorrow or yesterday", "today");
        e.x.rules(1, 0, true);
        e.is("best()", e.x.best(), 9);
        e.row("1 ahead of 2", 0, 1, 0, -1, -1, -1);
    }

    private static void weightsTogether() {
        Edge e = new Edge("Term 1", "Its WORTH: WEIGHTS together. BEST: the one of the most WORTH, the first of "
            + "these.");
        // 3002 (3), 2995 (1); 3001 (3), 2994 (1).
        e.told("fri", "thu");
        e.is("best()", e.x.best(), 6);
        e.row("best()", 0, 0, -1, -1, -1, -1);
        e.x.order(0, 0, 1);
        e.is("2995 and 3001", e.x.best(), 4);
        e.row("best()", 1, 0, -1, -1, -1, -1);
        e.told("last tue", "tue");
        // 2999 (3), 2992 (2); 3006 (3), 2999 (1).
        e.x.order(3, 0, 1);
        e.is("2999 and 2999", e.x.best(), 4);
        e.row("best()", 0, 1, -1, -1, -1, -1);
        // A later one of more WORTH, and of equal ones the first.
        e.told("tue or today or tomorrow", "today");
        e.x.rules(0, 0, true);
        e.is("2999 (1), 3000 (3), 3001 (3)", e.x.best(), 6);
        e.row("3000", 2, 0, -1, -1, -1, -1);
        e.x.rules(0, 2, true);
        e.is("2999 (1), 3001 (3)", e.x.best(), 6);
        e.row("3001", 3, 0, -1, -1, -1, -1);
        e.told("fri").x.rules(0, 0, true);
        e.is("the least WORTH", e.x.best(), 1);
        e.row("2995", 1, -1, -1, -1, -1, -1);
        e.told("fri", "fri", "fri", "fri", "fri", "fri");
        e.is("the greatest WORTH", e.x.best(), 18);
        e.row("3002 each", 0, 0, 0, 0, 0, 0);
    }

    private static void left() {
        Edge e = new Edge("Term 1", "LEFT: READINGS that are in some CHOICE.");
        e.three();
        e.counts(5, 6);
        e.x.order(0, 0, 1);
        e.counts(5, 4);
        e.x.order(0, 2, 1);
        e.counts(5, 3);
        e.x.order(0, 1, 2);
        e.counts(5, 0);
        e.counts(4, 6);
        // Each pair of the three has a CHOICE, the three together have none.
        e.told("today or tomorrow", "today or tomorrow", "today or tomorrow");
        e.x.order(0, 0, 1);
        e.x.order(0, 1, 2);
        e.is("choices()", e.x.choices(), 0);
        e.counts(5, 0);
    }

    private static void behindAll() {
        Edge e = new Edge("Promise 12", "An ORDER comes behind all: its number.");
        e.is("the first", e.x.order(2, 5, 0), 0);
        e.is("the second", e.x.order(0, 0, 5), 1);
        e.is("the third", e.x.order(4, 3, 2), 2);
        e.is("told(0)", e.x.told(0), 250);
        e.is("told(1)", e.x.told(1), 5);
        e.is("told(2)", e.x.told(2), 432);
        e.x.goes(1);
        e.is("behind two", e.x.order(0, 0, 5), 2);
        e.is("told(1)", e.x.told(1), 432);
        e.is("told(2)", e.x.told(2), 5);
    }

    private static void orderIsThere() {
        Edge e = new Edge("Promise 12", "-2: it is there; -3: there are ten;");
        e.is("order(1, 0, 1)", e.x.order(1, 0, 1), 0);
        e.is("it is there", e.x.order(1, 0, 1), -2);
        e.is("another kind is not", e.x.order(3, 0, 1), 1);
        e.is("x and y exchanged is not", e.x.order(1, 1, 0), 2);
        e.is("another y is not", e.x.order(1, 0, 2), 3);
        e.is("another x is not", e.x.order(1, 2, 1), 4);
        e.x.goes(0);
        e.is("it is not there any more", e.x.order(1, 0, 1), 4);
        e.fresh();
        e.tenOrders();
        e.is("there are ten", e.x.order(1, 0, 1), -3);
        e.is("it is there, though there are ten", e.x.order(0, 3, 4), -2);
        e.is("the tenth is there", e.x.order(4, 4, 5), -2);
        e.counts(1, 10);
        e.counts(6, 8);
        e.x.goes(9);
        e.is("there were nine", e.x.order(1, 0, 1), 9);
    }

    private static void orderNot() {
        Edge e = new Edge("Promise 12", "NONE: no such kind, EVENTS, both are one.");
        e.is("kind -1", e.x.order(-1, 0, 1), -1);
        e.is("kind 0", e.x.order(0, 0, 1), 0);
        e.is("kind 4", e.x.order(4, 0, 1), 1);
        e.is("kind 5", e.x.order(5, 0, 1), -1);
        e.is("x -1", e.x.order(0, -1, 1), -1);
        e.is("x 5", e.x.order(0, 5, 0), 2);
        e.is("x 6", e.x.order(0, 6, 1), -1);
        e.is("y -1", e.x.order(0, 1, -1), -1);
        e.is("y 5", e.x.order(0, 0, 5), 3);
        e.is("y 6", e.x.order(0, 1, 6), -1);
        e.is("both are one", e.x.order(0, 1, 1), -1);
        // Of these 100 times the kind, 10 times x, and y are those of an ORDER that is there.
        e.is("x 0, y 11", e.x.order(0, -1, 11), -1);
        e.is("kind 4, x -10, y 101", e.x.order(4, -10, 101), -1);
        e.is("greatest", e.x.order(Integer.MAX_VALUE, 0, 1), -1);
        e.is("least", e.x.order(0, Integer.MIN_VALUE, 1), -1);
        e.counts(1, 4);
        e.fresh();
        e.tenOrders();
        e.is("NONE ahead of -3", e.x.order(5, 0, 1), -1);
        e.is("NONE ahead of -3", e.x.order(0, 1, 1), -1);
    }

    private static void toldOrder() {
        Edge e = new Edge("Promise 13", "Of ORDER i: 100 times its kind, 10 times x, and y;");
        e.x.order(0, 0, 1);
        e.x.order(4, 5, 4);
        e.x.order(4, 4, 5);
        e.x.order(1, 1, 0);
        e.is("told(0)", e.x.told(0), 1);
        e.is("told(1)", e.x.told(1), 454);
        e.is("told(2)", e.x.told(2), 445);
        e.is("told(3)", e.x.told(3), 110);
    }

    private static void holdsInBest() {
        Edge e = new Edge("Promise 13", "the ROW: 1 if it holds in BEST, else 0 (2 without a CHOICE)");
        e.x.order(0, 0, 1);
        e.is("no event is told", e.x.told(0), 1);
        e.row("no CHOICE", 2, 0);
        e.tells(0, -1, "fri", 2);
        e.is("one event is told", e.x.told(0), 1);
        e.row("it holds", 1, 0);
        e.tells(1, -1, "thu", 2);
        e.is("told(0)", e.x.told(0), 1);
        e.row("it holds by 2995 and 3001", 1, 1);
        e.x.rules(0, 1, true);
        e.is("told(0)", e.x.told(0), 1);
        e.row("no CHOICE", 2, 0);
    }

    private static void pairs() {
        Edge e = new Edge("Promise 13",
            "pairs of READINGS that are in by which it holds (0 of EVENTS that are not told).");
        e.told("mon or tue or wed", "mon or tue or wed", "today");
        e.x.order(3, 0, 1);
        e.x.order(4, 0, 1);
        e.x.order(1, 0, 3);
        e.x.order(1, 3, 0);
        e.x.order(1, 3, 4);
        e.is("told(0)", e.x.told(0), 301);
        e.row("each with itself", 1, 6);
        // 3005, 2998, 3006, 2999, 3000, 2993: too far are 2998 and 3006, 2993 and 3005, 2993 and 3006, both ways.
        e.is("told(1)", e.x.told(1), 401);
        e.row("all but six of 36", 1, 30);
        e.x.rules(0, 4, true);
        e.is("told(0)", e.x.told(0), 301);
        e.row("3000 is out", 1, 5);
        e.x.rules(1, 5, true);
        e.is("told(0)", e.x.told(0), 301);
        e.row("2993 is out", 1, 4);
        e.is("y is not told", e.x.told(2), 103);
        e.row("y is not told", 1, 0);
        e.is("x is not told", e.x.told(3), 130);
        e.row("x is not told", 1, 0);
        e.is("neither is told", e.x.told(4), 134);
        e.row("neither is told", 1, 0);
        // What other ORDERS leave does not matter.
        e.x.order(0, 0, 1);
        e.is("told(0)", e.x.told(0), 301);
        e.row("no CHOICE, four pairs", 2, 4);
    }

    private static void toldNot() {
        Edge e = new Edge("Promise 13", "NONE: none such.");
        e.is("there is none", e.x.told(0), -1);
        e.x.order(0, 0, 1);
        e.is("told(0)", e.x.told(0), 1);
        e.row("told(0)", 2, 0);
        e.is("told(1)", e.x.told(1), -1);
        e.is("told(-1)", e.x.told(-1), -1);
        e.is("told(greatest)", e.x.told(Integer.MAX_VALUE), -1);
        e.row("the row stays", 2, 0);
        e.x.goes(0);
        e.is("told(0)", e.x.told(0), -1);
    }

    private static void howManyChoices() {
        Edge e = new Edge("Promise 14", "How many CHOICES there are; the ROW: how many there would be without ORDERS");
        e.told("mon or tue or wed", "mon or tue or wed", "mon or tue or wed", "mon or tue or wed", "mon or tue or wed",
            "mon or tue or wed");
        e.is("as many as can be", e.x.choices(), 46656);
        e.row("as many as can be", 46656);
        e.x.order(3, 0, 5);
        e.is("choices()", e.x.choices(), 7776);
        e.row("choices()", 46656);
        e.x.rules(3, 2, true);
        e.is("choices()", e.x.choices(), 6480);
        e.row("choices()", 38880);
        e.x.order(0, 0, 5);
        e.is("none", e.x.choices(), 0);
        e.row("none", 38880);
        e.told("today");
        e.is("one", e.x.choices(), 1);
        e.row("one", 1);
        e.x.rules(0, 0, true);
        e.is("none is in", e.x.choices(), 0);
        e.row("none is in", 0);
    }

    private static void noEventIsTold() {
        Edge e = new Edge("Promise 14", "(0 if no EVENT is told: there is no CHOICE then).");
        e.is("choices()", e.x.choices(), 0);
        e.row("choices()", 0);
        e.x.order(0, 0, 1);
        e.is("choices()", e.x.choices(), 0);
        e.row("choices()", 0);
        e.tells(5, -1, "today", 1);
        e.is("choices()", e.x.choices(), 1);
        e.row("choices()", 1);
        e.x.drops(5);
        e.is("choices()", e.x.choices(), 0);
        e.row("choices()", 0);
        e.is("best()", e.x.best(), -2);
    }

    private static void best() {
        Edge e = new Edge("Promise 15", "BEST: its WORTH; the ROW: for each EVENT its READING (NONE of one that "
            + "is not told).");
        e.tells(2, -1, "fri", 2);
        e.is("best()", e.x.best(), 3);
        e.row("best()", -1, -1, 0, -1, -1, -1);
        e.tells(5, -1, "thu", 2);
        e.x.order(0, 2, 5);
        e.is("best()", e.x.best(), 4);
        e.row("best()", -1, -1, 1, -1, -1, 0);
        e.told("mon or tue or wed", "today", "today", "today", "today", "today");
        for (int i = 0; i < 5; i++) {
            e.x.rules(0, i, true);
        }
        e.is("best()", e.x.best(), 16);
        e.row("the sixth READING", 5, 0, 0, 0, 0, 0);
        e.x.drops(1);
        e.is("best()", e.x.best(), 13);
        e.row("event 1 is not told any more", 5, -1, 0, 0, 0, 0);
    }

    private static void bestNot() {
        Edge e = new Edge("Promise 15", "-2: there is no CHOICE.");
        e.is("no event is told", e.x.best(), -2);
        e.told("today", "tomorrow");
        e.is("best()", e.x.best(), 6);
        e.x.order(0, 1, 0);
        e.is("no CHOICE", e.x.best(), -2);
        e.row("the row stays", 0, 0, -1, -1, -1, -1);
        e.x.goes(0);
        e.x.rules(0, 0, true);
        e.is("no READING is in", e.x.best(), -2);
    }

    private static void differsInEach() {
        Edge e = new Edge("Promise 16", "WORTH of another CHOICE: the one of the most WORTH (of equal ones the first) "
            + "among those that differ from BEST in each EVENT that has more than one READING that is LEFT: it; "
            + "the ROW: as best().");
        e.three();
        e.is("all three differ", e.x.other(), 3);
        e.row("other()", 1, 1, 1, -1, -1, -1);
        // 0 has 2995, 1 has 3001 alone: 2 alone differs.
        e.x.order(0, 0, 1);
        e.is("other()", e.x.other(), 5);
        e.row("other()", 1, 0, 1, -1, -1, -1);
        // Of equal ones the first, of unlike ones that of the most WORTH.
        e.told("today or tomorrow or yesterday");
        e.is("other()", e.x.other(), 3);
        e.row("the first of two", 1, -1, -1, -1, -1, -1);
        e.told("today or last tue");
        // 3000 (3), 2999 (3), 2992 (2).
        e.is("other()", e.x.other(), 3);
        e.row("the one of more WORTH", 1, -1, -1, -1, -1, -1);
        e.told("today or mon or tue");
        // 3000 (3), 3005 (3), 2998 (1), 3006 (3), 2999 (1).
        e.x.rules(0, 1, true);
        e.is("other()", e.x.other(), 3);
        e.row("a later one of more WORTH", 3, -1, -1, -1, -1, -1);
        // It may have less WORTH than one that does not differ in each.
        e.told("fri", "thu", "today");
        e.is("other()", e.x.other(), 5);
        e.row("event 2 has one READING", 1, 1, 0, -1, -1, -1);
    }

    private static void otherNot() {
        Edge e = new Edge("Promise 16", "-2: there is none such, or no CHOICE.");
        e.is("no event is told", e.x.other(), -2);
        e.told("fri", "today");
        e.is("there is another", e.x.other(), 4);
        e.row("other()", 1, 0, -1, -1, -1, -1);
        e.x.rules(0, 1, true);
        e.is("there is one CHOICE alone", e.x.other(), -2);
        e.x.order(0, 0, 1);
        e.is("there is no CHOICE", e.x.other(), -2);
        e.row("the row stays", 1, 0, -1, -1, -1, -1);
        // 3000, 3005 and 3000, 2995: all but (1, 1), which alone would differ in both.
        e.told("today or in 5 day", "today or 5 day ago");
        e.is("(1, 1)", e.x.other(), 6);
        e.row("(1, 1)", 1, 1, -1, -1, -1, -1);
        e.x.order(4, 0, 1);
        e.is("three", e.x.choices(), 3);
        e.is("none differs in both", e.x.other(), -2);
        e.row("the row of choices()", 4);
    }

    private static void fewestOrders() {
        Edge e = new Edge("Promise 17", "If there is no CHOICE: the fewest ORDERS (bits; of as many the least number) "
            + "without which there is one; the ROW: how many CHOICES then.");
        e.told("today", "tomorrow", "fri");
        e.x.order(0, 0, 1);
        e.x.order(0, 1, 0);
        e.is("one of two", e.x.conflict(), 2);
        e.row("both READINGS of event 2", 2);
        e.x.order(1, 0, 1);
        e.is("two of three", e.x.conflict(), 6);
        e.row("both READINGS of event 2", 2);
        e.x.order(0, 1, 2);
        e.is("two of four, one holds by one READING", e.x.conflict(), 6);
        e.row("3002", 1);
        // All ten, none of which can hold.
        e.told("today", "in 30 day", "in 60 day", "in 90 day");
        for (int kind = 1; kind < 5; kind++) {
            e.x.order(kind, 0, 1);
            e.x.order(kind, 1, 2);
        }
        e.x.order(0, 1, 0);
        e.x.order(0, 2, 1);
        e.is("all ten", e.x.conflict(), 1023);
        e.row("one", 1);
        e.x.goes(9);
        e.is("all nine", e.x.conflict(), 511);
        e.x.order(0, 0, 1);
        e.is("the tenth holds", e.x.conflict(), 511);
        othersAreNotTold(e);
    }

    /** Events 1, 3, 5 are told: what stands for 0, 2, 4 breaks nothing and hides nothing. */
    private static void othersAreNotTold(Edge e) {
        e.fresh();
        e.tells(1, -1, "today or tomorrow", 2);
        e.tells(3, -1, "tomorrow", 1);
        e.tells(5, -1, "in 2 day or fri", 2);
        e.x.order(3, 1, 3);
        e.x.order(0, 5, 3);
        e.is("2995 is ahead of all", e.x.conflict(), -2);
        e.x.order(0, 1, 5);
        e.is("3001, and 3002 is not ahead of it", e.x.conflict(), 2);
        e.row("one", 1);
        e.x.goes(1);
        e.x.order(3, 3, 5);
        e.is("3001 is no FROM of event 5", e.x.conflict(), 4);
        e.row("one", 1);
        e.x.drops(3);
        e.x.order(0, 5, 1);
        e.is("1 ahead of 5, or 5 ahead of 1", e.x.conflict(), 2);
        e.row("2995 with both", 2);
    }

    private static void leastNumber() {
        Edge e = new Edge("Promise 17", "(bits; of as many the least number)");
        e.told("fri", "fri");
        e.x.order(0, 0, 1);
        e.x.order(0, 1, 0);
        e.is("1 or 2", e.x.conflict(), 1);
        e.row("one", 1);
        e.told("fri", "fri");
        e.x.order(0, 4, 5);
        e.x.order(0, 1, 0);
        e.x.order(0, 0, 1);
        e.is("2 or 4", e.x.conflict(), 2);
        // Two of three: 1 + 2, 1 + 4, 2 + 4, of which the first is the least.
        e.told("fri", "fri");
        e.x.order(0, 0, 1);
        e.x.order(3, 0, 1);
        e.x.order(0, 1, 0);
        e.is("1 + 2 is the least", e.x.conflict(), 3);
        e.row("one", 1);
        // One ORDER, though its number is greater than that of two without which there is a CHOICE as well.
        e.told("fri", "fri", "fri");
        e.x.order(0, 0, 1);
        e.x.order(0, 0, 2);
        e.x.order(0, 1, 0);
        e.is("4, not 1 + 2", e.x.conflict(), 4);
        e.row("one", 1);
    }

    private static void conflictThere() {
        Edge e = new Edge("Promise 17", "-2: there is a CHOICE;");
        e.told("today", "tomorrow");
        e.is("without ORDERS", e.x.conflict(), -2);
        e.x.order(0, 0, 1);
        e.is("one holds", e.x.conflict(), -2);
        e.x.order(3, 0, 1);
        e.is("one does not", e.x.conflict(), 2);
        e.row("one", 1);
        e.x.goes(1);
        e.is("there is a CHOICE again", e.x.conflict(), -2);
        e.row("the row stays", 1);
        // Other ORDERS have the numbers now.
        e.x.goes(0);
        e.x.order(0, 1, 0);
        e.is("the first does not hold", e.x.conflict(), 1);
        e.x.goes(0);
        e.x.order(0, 0, 1);
        e.x.order(3, 0, 1);
        e.is("the first holds", e.x.conflict(), 2);
    }

    private static void conflictByNone() {
        Edge e = new Edge("Promise 17", "-3: by none (an EVENT has no READING that is in), or no EVENT is told.");
        e.is("no event is told", e.x.conflict(), -3);
        e.x.order(0, 0, 1);
        e.is("no event is told", e.x.conflict(), -3);
        e.told("fri", "today").x.order(3, 0, 1);
        e.is("both are in", e.x.conflict(), 1);
        e.row("two", 2);
        e.x.rules(0, 0, true);
        e.is("one is in", e.x.conflict(), 1);
        e.row("one", 1);
        e.x.rules(0, 1, true);
        e.is("none is in", e.x.conflict(), -3);
        e.x.goes(0);
        e.is("none is in, without ORDERS", e.x.conflict(), -3);
        e.row("the row stays", 1);
        e.x.drops(0);
        e.is("event 1 alone has a CHOICE", e.x.conflict(), -2);
    }

    private static void withoutOne() {
        Edge e = new Edge("Promise 18", "Without ORDER i alone: how many CHOICES; the ROW: how many more "
            + "READINGS would be LEFT.");
        e.three();
        e.x.order(0, 0, 1);
        e.x.order(0, 2, 1);
        e.x.order(1, 4, 5);
        // 2995 or 2996 ahead of 3001: one CHOICE, three READINGS.
        e.is("without(0)", e.x.without(0), 2);
        e.row("3002 more", 1);
        e.is("without(1)", e.x.without(1), 2);
        e.row("3003 more", 1);
        e.is("without(2)", e.x.without(2), 1);
        e.row("none more", 0);
        e.x.order(0, 1, 2);
        e.is("no CHOICE now, without(3)", e.x.without(3), 1);
        e.row("three more", 3);
        e.is("without(0)", e.x.without(0), 0);
        e.row("none more", 0);
        e.counts(1, 4);
        e.is("the ORDERS stay", e.x.told(0), 1);
        e.fresh();
        e.tenOrders();
        e.tells(0, -1, "fri", 2);
        e.is("the last of ten", e.x.without(9), 2);
        e.row("none more", 0);
    }

    private static void withoutNot() {
        Edge e = new Edge("Promise 18", "NONE: none such.");
        e.is("there is none", e.x.without(0), -1);
        e.told("today").x.order(0, 0, 1);
        e.is("without(0)", e.x.without(0), 1);
        e.row("without(0)", 0);
        e.is("without(1)", e.x.without(1), -1);
        e.is("without(-1)", e.x.without(-1), -1);
        e.is("without(least)", e.x.without(Integer.MIN_VALUE), -1);
        e.row("the row stays", 0);
    }

    private static void withOneMore() {
        Edge e = new Edge("Promise 19", "With an ORDER more (as order(); how many there are does not matter): "
            + "how many CHOICES; the ROW: how many fewer READINGS would be LEFT.");
        e.three();
        e.is("with(0, 0, 1)", e.x.with(0, 0, 1), 2);
        e.row("two fewer", 2);
        e.is("with(0, 0, 3)", e.x.with(0, 0, 3), 8);
        e.row("none fewer", 0);
        e.is("with(3, 0, 1)", e.x.with(3, 0, 1), 0);
        e.row("all six fewer", 6);
        e.counts(1, 0);
        e.counts(6, 3);
        e.tenOrders();
        e.is("order() with ten", e.x.order(0, 0, 1), -3);
        e.is("with() with ten", e.x.with(0, 0, 1), 2);
        e.row("two fewer", 2);
        e.counts(1, 10);
        e.is("without what was looked at", e.x.choices(), 8);
    }

    private static void withNot() {
        Edge e = new Edge("Promise 19", "-2: it is there; NONE: as order().");
        e.three().x.order(0, 0, 1);
        e.is("another", e.x.with(0, 0, 2), 2);
        e.row("another", 0);
        e.is("it is there", e.x.with(0, 0, 1), -2);
        e.is("kind -1", e.x.with(-1, 0, 1), -1);
        e.is("kind 5", e.x.with(5, 0, 1), -1);
        e.is("x -1", e.x.with(0, -1, 1), -1);
        e.is("x 6", e.x.with(0, 6, 1), -1);
        e.is("y -1", e.x.with(0, 1, -1), -1);
        e.is("y 6", e.x.with(0, 1, 6), -1);
        e.is("both are one", e.x.with(0, 1, 1), -1);
        e.row("the row stays", 0);
        e.fresh();
        e.tenOrders();
        e.is("it is there, one of ten", e.x.with(4, 4, 5), -2);
        e.is("kind 5, with ten there", e.x.with(5, 4, 5), -1);
    }
}
