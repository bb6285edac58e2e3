/** Edges of phrases: the READINGS and the kinds of SPANS of term 1. DAY 3000 is Wednesday, March 19, 2008. */
final class PhraseEdges {
    private static final int MONDAY = 2998;
    private static final int WEDNESDAY = 3000;
    private static final int SUNDAY = 3004;

    static void all() {
        grainsAndWeights();
        outOfTheDays();
        spansThatAreOut();
        inTheirOrder();
        doubles();
        sixAtMost();
        parts();
        fromTo();
        fromAndToOfBoth();
        afterAndBefore();
        thirdsOfThreeDays();
        thirdsRounded();
        thirdsKeep();
        firstAndLast();
        todayAndBesides();
        inAndAgo();
        wholeUnits();
        unitsAround();
        nextAndLastWeek();
        dayNames();
        thisName();
        nextName();
        lastName();
        nameAfterNext();
        monthNames();
        monthNamesAtTheEnds();
        monthAndN();
        leapDays();
        nTo31();
        wholeDates();
        wholeYears();
    }

    /** READINGS of one DAY each, GRAIN 0: DAY, WEIGHT in turn. */
    private static void single(Edge e, int ref, String phrase, int... want) {
        long[] row = new long[want.length * 2];
        for (int i = 0; i < want.length; i += 2) {
            row[2 * i] = want[i];
            row[2 * i + 1] = want[i];
            row[2 * i + 3] = want[i + 1];
        }
        e.means(ref, phrase, row);
    }

    private static void grainsAndWeights() {
        Edge e = new Edge("Term 1", "A READING: FROM, TO (DAYS), GRAIN (0 DAY, 1 WEEK, 2 MONTH, 3 YEAR), WEIGHT "
            + "1 .. 3.");
        e.means(WEDNESDAY, "this day", 3000, 3000, 0, 3);
        e.means(WEDNESDAY, "this week", 2998, 3004, 1, 3);
        e.means(WEDNESDAY, "this month", 2982, 3012, 2, 3);
        e.means(WEDNESDAY, "this year", 2922, 3287, 3, 3);
        e.means(WEDNESDAY, "dec", 3257, 3287, 2, 3, 2891, 2921, 2, 2);
        e.means(WEDNESDAY, "in 2 year", 3730, 3730, 0, 3, 3653, 4017, 3, 1);
        // The lesser of 2 and 1, of 2 and 3, of 1 and 3, by events one from another.
        e.tells(0, -1, "next thu", 2);
        e.tells(1, 0, "thu or this week", 5);
        for (int i = 0; i < 5; i++) {
            e.is("WEIGHT of " + i, e.x.reading(1, i, 3), new int[] {3, 2, 3, 1, 2}[i]);
        }
    }

    private static void outOfTheDays() {
        Edge e = new Edge("Term 1", "READINGS of which a DAY is not 0 .. 9999 are none.");
        single(e, 1, "yesterday", 0, 3);
        e.none(0, "yesterday");
        single(e, 9998, "tomorrow", 9999, 3);
        e.none(9999, "tomorrow");
        e.means(2, "this week", 2, 8, 1, 3);
        e.none(1, "this week");
        e.means(9997, "this week", 9991, 9997, 1, 3);
        e.none(9998, "this week");
        e.means(9981, "this month", 9952, 9981, 2, 3);
        e.none(9982, "this month");
        e.means(9861, "this year", 9497, 9861, 3, 3);
        e.none(9862, "this year");
        e.means(31, "last month", 0, 30, 2, 3);
        e.none(30, "last month");
        e.means(366, "last year", 0, 365, 3, 3);
        e.none(365, "last year");
        e.means(9, "last week", 2, 8, 1, 3);
        e.means(8, "last week", 1, 7, 1, 1);
        e.means(7, "last week", 0, 6, 1, 1);
        e.none(6, "last week");
        e.means(9990, "next week", 9991, 9997, 1, 3);
        e.means(9991, "next week", 9992, 9998, 1, 1);
        e.means(9992, "next week", 9993, 9999, 1, 1);
        e.none(9993, "next week");
    }

    /** A SPAN of which some DAYS alone are none has no READING of which a part could be told. */
    private static void spansThatAreOut() {
        Edge e = new Edge("Term 1", "READINGS of which a DAY is not 0 .. 9999 are none.");
        e.means(2, "late this week", 7, 8, 1, 3);
        e.none(1, "late this week");
        single(e, 2, "1 day after this week", 9, 3);
        e.none(1, "1 day after this week");
        single(e, 9997, "1 day before this week", 9990, 3);
        e.none(9998, "1 day before this week");
        single(e, 9981, "first mon of this month", 9956, 3);
        e.none(9982, "first mon of this month");
        e.means(3000, "today to 2026", 3000, 9861, 3, 3);
        e.none(3000, "today to 2027");
        e.none(3000, "2027 to 2027");
        single(e, 1, "1 day after yesterday", 1, 3);
        e.none(0, "1 day after yesterday");
        single(e, 9998, "1 day before 1 day after today", 9998, 3);
        e.none(9999, "1 day before 1 day after today");
    }

    private static void inTheirOrder() {
        Edge e = new Edge("Term 1", "Of a PHRASE: in the order in which they come;");
        single(e, WEDNESDAY, "today or tomorrow", 3000, 3, 3001, 3);
        single(e, WEDNESDAY, "tomorrow or today", 3001, 3, 3000, 3);
        single(e, WEDNESDAY, "last tue or fri", 2999, 3, 2992, 2, 3002, 3, 2995, 1);
        single(e, WEDNESDAY, "fri or last tue", 3002, 3, 2995, 1, 2999, 3, 2992, 2);
        e.means(WEDNESDAY, "last mon to next sun", 2998, 3011, 0, 3, 2998, 3004, 0, 2, 2991, 3011, 0, 2,
            2991, 3004, 0, 2);
    }

    private static void doubles() {
        Edge e = new Edge("Term 1", "one of FROM and TO of one that was there is none of its own "
            + "(that one has the greater WEIGHT and the lesser GRAIN of both)");
        e.means(WEDNESDAY, "today or today", 3000, 3000, 0, 3);
        e.means(WEDNESDAY, "today or today to tomorrow", 3000, 3000, 0, 3, 3000, 3001, 0, 3);
        e.means(WEDNESDAY, "today or yesterday to today", 3000, 3000, 0, 3, 2999, 3000, 0, 3);
        single(e, WEDNESDAY, "tue or yesterday", 3006, 3, 2999, 3);
        single(e, WEDNESDAY, "yesterday or tue", 2999, 3, 3006, 3);
        single(e, WEDNESDAY, "tue or last tue", 3006, 3, 2999, 3, 2992, 2);
        e.means(WEDNESDAY, "this week or this mon to this sun", 2998, 3004, 0, 3);
        e.means(WEDNESDAY, "this mon to this sun or this week", 2998, 3004, 0, 3);
        // "mon to this sun" has the GRAIN 0, the WEIGHT 1: of each the better one stays.
        e.means(WEDNESDAY, "mon to this sun", 2998, 3004, 0, 1);
        e.means(WEDNESDAY, "this week or mon to this sun", 2998, 3004, 0, 3);
        e.means(WEDNESDAY, "mon to this sun or this week", 2998, 3004, 0, 3);
        e.means(WEDNESDAY, "this month to this month or mar 1 2008 to this month", 2982, 3012, 2, 3);
        // Both kinds of "next week" are the same seven DAYS on a Sunday.
        e.means(SUNDAY, "next week", 3005, 3011, 1, 3);
    }

    private static void sixAtMost() {
        Edge e = new Edge("Term 1", "6 at most.");
        e.fine("mon or tue or today", 5);
        e.fine("mon or tue or wed", 6);
        e.fine("mon or tue or wed or today", 6);
        e.meansNot(WEDNESDAY, "mon or tue or wed or tomorrow", -300);
        e.fine("mon or tue or wed or wed or tue or mon", 6);
        e.meansNot(WEDNESDAY, "mon or tue or wed or thu", -300);
        // At DAY 0 each name has one alone: what is none does not count.
        e.fresh();
        e.is("at DAY 0", e.text("mon or tue or wed or thu or fri or sat").x.means(0), 6);
        e.meansNot(0, "mon or tue or wed or thu or fri or sat or sun", -300);
    }

    private static void parts() {
        Edge e = new Edge("Term 1", "PHRASE: PART {or PART}: READINGS of all, one PART behind another.");
        single(e, WEDNESDAY, "today", 3000, 3);
        single(e, WEDNESDAY, "today or today or today or today or today or today or today or today or today", 3000, 3);
        e.means(WEDNESDAY, "2000or".repeat(12) + "2000", 0, 365, 3, 3);
        e.means(WEDNESDAY, "2000to2000or".repeat(6) + "2000", 0, 365, 3, 3);
        e.means(WEDNESDAY, "today or this mon to this tue or tomorrow", 3000, 3000, 0, 3, 2998, 2999, 0, 3,
            3001, 3001, 0, 3);
        e.means(WEDNESDAY, "this mon to today or yesterday to tomorrow", 2998, 3000, 0, 3, 2999, 3001, 0, 3);
        e.fault("or today", 0);
        e.fault("today or or today", 9);
        e.fault("today or", 8);
        e.fault("today today", 6);
    }

    private static void fromTo() {
        Edge e = new Edge("Term 1", "PART: SPAN [to SPAN]: of each READING x of the first one, each y of the "
            + "second one, "
            + "of which FROM of x is TO of y at most");
        e.means(WEDNESDAY, "today to tomorrow", 3000, 3001, 0, 3);
        e.means(WEDNESDAY, "today to today", 3000, 3000, 0, 3);
        e.none(WEDNESDAY, "today to yesterday");
        // It is TO of y that counts, and FROM of x.
        e.means(WEDNESDAY, "this sun to this week", 3004, 3004, 1, 3);
        e.none(WEDNESDAY, "next mon to this week");
        e.means(WEDNESDAY, "this week to this mon", 2998, 2998, 1, 3);
        e.none(WEDNESDAY, "this week to last sun");
        // 3002 (3), 2995 (1) to 3005 (3), 2998 (1): all but one of the four.
        e.means(WEDNESDAY, "fri to mon", 3002, 3005, 0, 3, 2995, 3005, 0, 1, 2995, 2998, 0, 1);
        // Fewer behind more: nothing of the first PART is left for the second one.
        e.means(WEDNESDAY, "fri to next sun or today to tomorrow", 3002, 3011, 0, 3, 3002, 3004, 0, 2, 2995, 3011, 0, 1,
            2995, 3004, 0, 1, 3000, 3001, 0, 3);
        e.means(WEDNESDAY, "next sun to in 20 day or this mon to this tue or today to tomorrow", 3011, 3020, 0, 3,
            3004, 3020, 0, 2, 2998, 2999, 0, 3, 3000, 3001, 0, 3);
        e.fault("today to", 8);
        e.fault("today to tue to wed", 13);
    }

    private static void fromAndToOfBoth() {
        Edge e = new Edge("Term 1", "FROM of x, TO of y, the greater GRAIN, the lesser WEIGHT.");
        e.means(WEDNESDAY, "this month to this year", 2982, 3287, 3, 3);
        e.means(WEDNESDAY, "this year to this month", 2922, 3012, 3, 3);
        e.means(WEDNESDAY, "today to this week", 3000, 3004, 1, 3);
        e.means(WEDNESDAY, "this week to today", 2998, 3000, 1, 3);
        e.means(WEDNESDAY, "last tue to today", 2999, 3000, 0, 3, 2992, 3000, 0, 2);
        e.means(WEDNESDAY, "today to next sun", 3000, 3011, 0, 3, 3000, 3004, 0, 2);
        e.means(WEDNESDAY, "last tue to in 1 week", 2999, 3007, 0, 3, 2999, 3011, 1, 1, 2992, 3007, 0, 2,
            2992, 3011, 1, 1);
    }

    private static void afterAndBefore() {
        Edge e = new Edge("Term 1", "N UNIT after SPAN, N UNIT before SPAN: of each READING TO of it moved by N on, "
            + "FROM of it by N back: that DAY, GRAIN 0, its WEIGHT.");
        single(e, WEDNESDAY, "1 day after this week", 3005, 3);
        single(e, WEDNESDAY, "1 day before this week", 2997, 3);
        single(e, WEDNESDAY, "1 month after this month", Edge.day(2008, 4, 30), 3);
        single(e, WEDNESDAY, "1 month before this month", Edge.day(2008, 2, 1), 3);
        single(e, WEDNESDAY, "1 year after feb 29 2004", Edge.day(2005, 2, 28), 3);
        single(e, WEDNESDAY, "1 week after tue", 3013, 3, 3006, 1);
        single(e, WEDNESDAY, "1 week before last tue", 2992, 3, 2985, 2);
        single(e, 9998, "1 day after today", 9999, 3);
        e.none(9999, "1 day after today");
        single(e, 1, "1 day before today", 0, 3);
        e.none(0, "1 day before today");
        // One of two READINGS goes out alone; 9 is a Monday.
        single(e, 13, "8 day before mon", 8, 3, 1, 1);
        single(e, 13, "10 day before mon", 6, 3);
        e.none(13, "17 day before mon");
        // What stands nearer to the SPAN is done first.
        single(e, WEDNESDAY, "1 day before 1 month after jan 31 2001", Edge.day(2001, 2, 27), 3);
        single(e, WEDNESDAY, "1 month after 1 day before jan 31 2001", Edge.day(2001, 2, 28), 3);
        e.none(WEDNESDAY, "99 year before 98 day after today");
    }

    private static void third(Edge e, int ref, String span, int[] early, int[] mid, int[] late, int grain) {
        e.means(ref, "early " + span, early[0], early[1], grain, 3);
        e.means(ref, "mid " + span, mid[0], mid[1], grain, 3);
        e.means(ref, "late " + span, late[0], late[1], grain, 3);
    }

    private static void thirdsOfThreeDays() {
        Edge e = new Edge("Term 1", "early SPAN, mid SPAN, late SPAN: of each READING of 3 DAYS or more");
        for (String part : new String[] {"early ", "mid ", "late "}) {
            e.none(WEDNESDAY, part + "today");
            e.none(WEDNESDAY, part + "early this week");
            e.none(WEDNESDAY, part + "late this week");
            e.none(WEDNESDAY, part + "mid mid this week");
        }
        // The middle of a week has three DAYS.
        third(e, WEDNESDAY, "mid this week", new int[] {3000, 3000}, new int[] {3001, 3001}, new int[] {3002, 3002}, 1);
        // Of April the first third of the first third has 3 DAYS, the middle of the middle 4, the middle of that 2.
        int april = Edge.day(2008, 4, 1);
        third(e, april, "early early this month", new int[] {april, april}, new int[] {april + 1, april + 1},
            new int[] {april + 2, april + 2}, 2);
        third(e, april, "mid mid this month", new int[] {april + 13, april + 13}, new int[] {april + 14, april + 15},
            new int[] {april + 16, april + 16}, 2);
        e.none(april, "early mid mid mid this month");
        e.none(april, "mid mid mid mid this month");
        e.none(april, "late mid mid mid this month");
    }

    private static void thirdsRounded() {
        Edge e = new Edge("Term 1", "its first third (as many DAYS as a third, rounded down), its last third "
            + "(likewise), "
            + "what lies between;");
        int[][] months = {{2001, 2, 28}, {2004, 2, 29}, {2004, 4, 30}, {2004, 5, 31}, {2001, 1, 365}, {2004, 1, 366}};
        for (int[] one : months) {
            int first = Edge.day(one[0], one[1], 1);
            int last = first + one[2] - 1;
            int third = one[2] / 3;
            String span = one[2] > 31 ? "this year" : "this month";
            third(e, first, span, new int[] {first, first + third - 1}, new int[] {first + third, last - third},
                new int[] {last - third + 1, last}, one[2] > 31 ? 3 : 2);
        }
        third(e, WEDNESDAY, "this week", new int[] {2998, 2999}, new int[] {3000, 3002}, new int[] {3003, 3004}, 1);
        // Five DAYS: the middle of the middle of a month of 31.
        third(e, WEDNESDAY, "mid mid mar", new int[] {2995, 2995}, new int[] {2996, 2998}, new int[] {2999, 2999}, 2);
    }

    private static void thirdsKeep() {
        Edge e = new Edge("Term 1", "what lies between; GRAIN, WEIGHT as it.");
        e.means(WEDNESDAY, "early next week", 3005, 3006, 1, 3, 3001, 3002, 1, 1);
        e.means(WEDNESDAY, "mid next week", 3007, 3009, 1, 3, 3003, 3005, 1, 1);
        e.means(WEDNESDAY, "late last week", 2996, 2997, 1, 3, 2998, 2999, 1, 1);
        e.means(WEDNESDAY, "late dec", 3278, 3287, 2, 3, 2912, 2921, 2, 2);
        // The DAY itself has no third, the week behind it has.
        e.means(WEDNESDAY, "early in 1 week", 3005, 3006, 1, 1);
    }

    private static void firstAndLast() {
        Edge e = new Edge("Term 1", "first DAYNAME of SPAN, last DAYNAME of SPAN: of each READING the first, "
            + "the last such DAY in it, if there is one; GRAIN 0, its WEIGHT.");
        for (String way : new String[] {"first ", "last "}) {
            single(e, WEDNESDAY, way + "mon of this week", 2998, 3);
            single(e, WEDNESDAY, way + "sun of this week", 3004, 3);
            single(e, WEDNESDAY, way + "mon of early this week", 2998, 3);
            single(e, WEDNESDAY, way + "tue of early this week", 2999, 3);
            e.none(WEDNESDAY, way + "wed of early this week");
            e.none(WEDNESDAY, way + "sun of early this week");
            single(e, WEDNESDAY, way + "wed of today", 3000, 3);
            e.none(WEDNESDAY, way + "tue of today");
            e.none(WEDNESDAY, way + "thu of today");
        }
        // February 2001: from Thursday to Wednesday, four of each.
        int february = Edge.day(2001, 2, 1);
        single(e, february, "first thu of this month", february, 3);
        single(e, february, "last thu of this month", february + 21, 3);
        single(e, february, "first wed of this month", february + 6, 3);
        single(e, february, "last wed of this month", february + 27, 3);
        // March 2008: five Saturdays, Sundays, Mondays.
        single(e, WEDNESDAY, "first sat of mar", 2982, 3);
        single(e, WEDNESDAY, "last mon of mar", 3012, 3);
        single(e, WEDNESDAY, "last tue of mar", 3006, 3);
        single(e, WEDNESDAY, "first mon of apr", 3019, 3, 2648, 2);
        single(e, WEDNESDAY, "first thu of fri or today", 3000, 3);
        // Of "fri" both, of "next fri" none is a Thursday.
        e.none(WEDNESDAY, "first thu of next fri");
        single(e, WEDNESDAY, "first sun of 2000", 1, 3);
        single(e, WEDNESDAY, "first sat of 2000", 0, 3);
    }

    private static void todayAndBesides() {
        Edge e = new Edge("Term 1", "today, tomorrow, yesterday: that DAY; GRAIN 0, WEIGHT 3.");
        single(e, 0, "today", 0, 3);
        single(e, 0, "tomorrow", 1, 3);
        e.none(0, "yesterday");
        single(e, 1, "yesterday", 0, 3);
        single(e, 9999, "today", 9999, 3);
        single(e, 9999, "yesterday", 9998, 3);
        e.none(9999, "tomorrow");
        single(e, 9998, "tomorrow", 9999, 3);
    }

    private static void inAndAgo() {
        Edge e = new Edge("Term 1", "in N UNIT, N UNIT ago: R moved by N on, back: GRAIN 0, WEIGHT 3;");
        single(e, 9900, "in 99 day", 9999, 3);
        e.none(9901, "in 99 day");
        single(e, 99, "99 day ago", 0, 3);
        e.none(98, "99 day ago");
        e.means(2952, "in 1 month", 2981, 2981, 0, 3, 2953, 2981, 2, 1);
        e.means(3012, "1 month ago", 2981, 2981, 0, 3, 2953, 2981, 2, 1);
        e.means(2981, "in 1 year", 3346, 3346, 0, 3, 3288, 3652, 3, 1);
        e.means(2981, "in 4 year", 4442, 4442, 0, 3, 4383, 4748, 3, 1);
        e.means(2981, "1 year ago", 2615, 2615, 0, 3, 2557, 2921, 3, 1);
    }

    private static void wholeUnits() {
        Edge e = new Edge("Term 1", "but for day: behind that the whole UNIT that has it, WEIGHT 1.");
        single(e, WEDNESDAY, "in 1 day", 3001, 3);
        single(e, WEDNESDAY, "1 day ago", 2999, 3);
        e.means(WEDNESDAY, "in 1 week", 3007, 3007, 0, 3, 3005, 3011, 1, 1);
        e.means(MONDAY, "in 1 week", 3005, 3005, 0, 3, 3005, 3011, 1, 1);
        e.means(SUNDAY, "in 1 week", 3011, 3011, 0, 3, 3005, 3011, 1, 1);
        e.means(WEDNESDAY, "in 1 month", 3031, 3031, 0, 3, 3013, 3042, 2, 1);
        e.means(WEDNESDAY, "in 1 year", 3365, 3365, 0, 3, 3288, 3652, 3, 1);
        // The DAY is one of 0 .. 9999, its UNIT is not.
        e.means(9990, "in 1 week", 9997, 9997, 0, 3, 9991, 9997, 1, 1);
        single(e, 9991, "in 1 week", 9998, 3);
        single(e, 9992, "in 1 week", 9999, 3);
        e.none(9993, "in 1 week");
        e.means(9, "1 week ago", 2, 2, 0, 3, 2, 8, 1, 1);
        single(e, 8, "1 week ago", 1, 3);
        single(e, 7, "1 week ago", 0, 3);
        e.none(6, "1 week ago");
        single(e, Edge.day(2027, 4, 18), "in 1 month", 9999, 3);
        e.none(Edge.day(2027, 4, 19), "in 1 month");
        e.means(31, "1 month ago", 0, 0, 0, 3, 0, 30, 2, 1);
        e.none(30, "1 month ago");
        single(e, Edge.day(2026, 5, 18), "in 1 year", 9999, 3);
        e.none(Edge.day(2026, 5, 19), "in 1 year");
        e.means(366, "1 year ago", 0, 0, 0, 3, 0, 365, 3, 1);
        e.none(365, "1 year ago");
    }

    private static void unitsAround() {
        Edge e = new Edge("Term 1", "this UNIT, next UNIT, last UNIT: the UNIT that has R, the one behind it, "
            + "ahead of it: WEIGHT 3;");
        single(e, WEDNESDAY, "this day", 3000, 3);
        single(e, WEDNESDAY, "next day", 3001, 3);
        single(e, WEDNESDAY, "last day", 2999, 3);
        for (int ref : new int[] {2982, 3012}) {
            e.means(ref, "this month", 2982, 3012, 2, 3);
            e.means(ref, "next month", 3013, 3042, 2, 3);
            e.means(ref, "last month", 2953, 2981, 2, 3);
        }
        e.means(2981, "this month", 2953, 2981, 2, 3);
        e.means(3013, "this month", 3013, 3042, 2, 3);
        for (int ref : new int[] {2922, 3287}) {
            e.means(ref, "this year", 2922, 3287, 3, 3);
            e.means(ref, "next year", 3288, 3652, 3, 3);
            e.means(ref, "last year", 2557, 2921, 3, 3);
        }
        e.means(2921, "this year", 2557, 2921, 3, 3);
        e.means(3288, "this year", 3288, 3652, 3, 3);
        e.means(2921, "next month", 2922, 2952, 2, 3);
        e.means(2922, "last month", 2891, 2921, 2, 3);
        e.means(9951, "next month", 9952, 9981, 2, 3);
        e.none(9952, "next month");
        e.means(9496, "next year", 9497, 9861, 3, 3);
        e.none(9497, "next year");
        e.none(0, "last day");
        e.none(9999, "next day");
    }

    private static void nextAndLastWeek() {
        Edge e = new Edge("Term 1", "of next week, last week behind that the seven DAYS behind R, ahead of R: "
            + "WEIGHT 1.");
        e.means(MONDAY, "next week", 3005, 3011, 1, 3, 2999, 3005, 1, 1);
        e.means(3003, "next week", 3005, 3011, 1, 3, 3004, 3010, 1, 1);
        e.means(SUNDAY, "next week", 3005, 3011, 1, 3);
        e.means(MONDAY, "last week", 2991, 2997, 1, 3);
        e.means(2999, "last week", 2991, 2997, 1, 3, 2992, 2998, 1, 1);
        e.means(SUNDAY, "last week", 2991, 2997, 1, 3, 2997, 3003, 1, 1);
        // Of this week, of other UNITS there is no more than one.
        e.means(WEDNESDAY, "this week", 2998, 3004, 1, 3);
        e.means(WEDNESDAY, "next month", 3013, 3042, 2, 3);
    }

    private static void dayNames() {
        Edge e = new Edge("Term 1", "DAYNAME: the first from R on, WEIGHT 3; the last ahead of R, WEIGHT 1.");
        single(e, WEDNESDAY, "tue", 3006, 3, 2999, 1);
        single(e, WEDNESDAY, "wed", 3000, 3, 2993, 1);
        single(e, WEDNESDAY, "thu", 3001, 3, 2994, 1);
        single(e, MONDAY, "sun", 3004, 3, 2997, 1);
        single(e, SUNDAY, "mon", 3005, 3, 2998, 1);
        single(e, 0, "sat", 0, 3);
        single(e, 0, "fri", 6, 3);
        single(e, 1, "sat", 7, 3, 0, 1);
        single(e, 7, "sat", 7, 3, 0, 1);
        single(e, 9999, "tue", 9999, 3, 9992, 1);
        single(e, 9999, "wed", 9993, 1);
        single(e, 9999, "mon", 9998, 1);
    }

    private static void thisName() {
        Edge e = new Edge("Term 1", "this DAYNAME: that of the WEEK of R, WEIGHT 3.");
        for (int ref : new int[] {MONDAY, WEDNESDAY, SUNDAY}) {
            single(e, ref, "this mon", 2998, 3);
            single(e, ref, "this wed", 3000, 3);
            single(e, ref, "this sun", 3004, 3);
        }
        single(e, 2997, "this mon", 2991, 3);
        single(e, 3005, "this sun", 3011, 3);
        e.none(0, "this fri");
        single(e, 0, "this sat", 0, 3);
        single(e, 0, "this sun", 1, 3);
        single(e, 9999, "this tue", 9999, 3);
        e.none(9999, "this wed");
    }

    private static void nextName() {
        Edge e = new Edge("Term 1", "next DAYNAME: that of the next WEEK, WEIGHT 3; the first behind R, WEIGHT 2.");
        single(e, WEDNESDAY, "next tue", 3006, 3);
        single(e, WEDNESDAY, "next wed", 3007, 3);
        single(e, WEDNESDAY, "next thu", 3008, 3, 3001, 2);
        single(e, MONDAY, "next mon", 3005, 3);
        single(e, MONDAY, "next sun", 3011, 3, 3004, 2);
        single(e, SUNDAY, "next mon", 3005, 3);
        single(e, SUNDAY, "next sun", 3011, 3);
        single(e, 9990, "next mon", 9991, 3);
        single(e, 9991, "next tue", 9999, 3, 9992, 2);
        single(e, 9991, "next wed", 9993, 2);
        single(e, 9998, "next tue", 9999, 2);
        e.none(9999, "next tue");
    }

    private static void lastName() {
        Edge e = new Edge("Term 1", "last DAYNAME: the last ahead of R, WEIGHT 3; that of the WEEK ahead, WEIGHT 2.");
        single(e, WEDNESDAY, "last tue", 2999, 3, 2992, 2);
        single(e, WEDNESDAY, "last wed", 2993, 3);
        single(e, WEDNESDAY, "last thu", 2994, 3);
        single(e, MONDAY, "last mon", 2991, 3);
        single(e, MONDAY, "last sun", 2997, 3);
        single(e, SUNDAY, "last mon", 2998, 3, 2991, 2);
        single(e, SUNDAY, "last sun", 2997, 3);
        e.none(0, "last sat");
        single(e, 1, "last sat", 0, 3);
        single(e, 2, "last sat", 0, 3);
        single(e, 8, "last mon", 2, 3);
        single(e, 10, "last mon", 9, 3, 2, 2);
        single(e, 9999, "last mon", 9998, 3, 9991, 2);
    }

    private static void nameAfterNext() {
        Edge e = new Edge("Term 1", "DAYNAME after next: the second behind R, WEIGHT 3; "
            + "that of the WEEK after the next one, WEIGHT 2.");
        single(e, WEDNESDAY, "tue after next", 3013, 3);
        single(e, WEDNESDAY, "wed after next", 3014, 3);
        single(e, WEDNESDAY, "thu after next", 3008, 3, 3015, 2);
        single(e, MONDAY, "mon after next", 3012, 3);
        single(e, MONDAY, "sun after next", 3011, 3, 3018, 2);
        single(e, SUNDAY, "mon after next", 3012, 3);
        single(e, SUNDAY, "sun after next", 3018, 3);
        single(e, 9985, "tue after next", 9999, 3);
        single(e, 9985, "wed after next", 9993, 3);
        single(e, 9991, "tue after next", 9999, 3);
        e.none(9992, "tue after next");
    }

    private static void monthNames() {
        Edge e = new Edge("Term 1", "MONTHNAME: the first such MONTH of which the last DAY is R or behind it, "
            + "WEIGHT 3; "
            + "the last such one that begins ahead of R, WEIGHT 2.");
        e.means(2981, "mar", 2982, 3012, 2, 3, 2616, 2646, 2, 2);
        e.means(2982, "mar", 2982, 3012, 2, 3, 2616, 2646, 2, 2);
        e.means(2983, "mar", 2982, 3012, 2, 3);
        e.means(3012, "mar", 2982, 3012, 2, 3);
        e.means(3013, "mar", 3347, 3377, 2, 3, 2982, 3012, 2, 2);
        e.means(2922, "jan", 2922, 2952, 2, 3, 2557, 2587, 2, 2);
        e.means(2921, "jan", 2922, 2952, 2, 3, 2557, 2587, 2, 2);
        e.means(2921, "dec", 2891, 2921, 2, 3);
        e.means(2922, "dec", 3257, 3287, 2, 3, 2891, 2921, 2, 2);
        e.means(2981, "feb", 2953, 2981, 2, 3);
        e.means(2982, "feb", 3319, 3346, 2, 3, 2953, 2981, 2, 2);
    }

    private static void monthNamesAtTheEnds() {
        Edge e = new Edge("Term 1", "the last such one that begins ahead of R, WEIGHT 2.");
        e.means(0, "jan", 0, 30, 2, 3);
        e.means(1, "jan", 0, 30, 2, 3);
        e.means(30, "jan", 0, 30, 2, 3);
        e.means(31, "jan", 366, 396, 2, 3, 0, 30, 2, 2);
        e.means(0, "dec", 335, 365, 2, 3);
        int may = Edge.day(2026, 5, 1);
        e.means(9981, "may", may, may + 30, 2, 2);
        e.means(9982, "may", may, may + 30, 2, 2);
        // May 2027 begins ahead of R now, but it has DAYS behind 9999.
        e.none(9983, "may");
        e.means(9981, "apr", 9952, 9981, 2, 3);
        e.means(9982, "apr", 9952, 9981, 2, 2);
        int june = Edge.day(2026, 6, 1);
        e.means(9999, "jun", june, june + 29, 2, 2);
    }

    private static void monthAndN() {
        Edge e = new Edge("Term 1", "MONTHNAME N: in the order told, WEIGHTS likewise: the first such DAY from R on, "
            + "the last such one ahead of R");
        single(e, 2999, "mar 19", 3000, 3, 2634, 2);
        single(e, 3000, "mar 19", 3000, 3, 2634, 2);
        single(e, 3001, "mar 19", 3365, 3, 3000, 2);
        single(e, 0, "jan 1", 0, 3);
        single(e, 1, "jan 1", 366, 3, 0, 2);
        single(e, 365, "dec 31", 365, 3);
        single(e, 366, "dec 31", 730, 3, 365, 2);
        single(e, 9998, "may 18", 9999, 3, 9634, 2);
        single(e, 9999, "may 18", 9999, 3, 9634, 2);
        single(e, 9999, "may 17", 9998, 2);
        single(e, 9999, "may 19", 9635, 2);
    }

    private static void leapDays() {
        Edge e = new Edge("Term 1", "(of YEARS in which it is; N to 31)");
        single(e, 2980, "feb 29", 2981, 3, 1520, 2);
        single(e, 2981, "feb 29", 2981, 3, 1520, 2);
        single(e, 2982, "feb 29", 4442, 3, 2981, 2);
        single(e, 0, "feb 29", 59, 3);
        single(e, 59, "feb 29", 59, 3);
        single(e, 60, "feb 29", 1520, 3, 59, 2);
        int last = Edge.day(2024, 2, 29);
        single(e, last, "feb 29", last, 3, Edge.day(2020, 2, 29), 2);
        single(e, last + 1, "feb 29", last, 2);
        single(e, 2981, "feb 28", Edge.day(2009, 2, 28), 3, 2980, 2);
        single(e, 3000, "mar 31", 3012, 3, 2646, 2);
    }

    private static void nTo31() {
        Edge e = new Edge("Term 1", "N to 31");
        e.fault("mar 0", 4);
        e.fine("mar 1", 2);
        e.fine("mar 31", 2);
        e.fault("mar 32", 4);
        e.fault("mar 99", 4);
        e.fine("apr 30", 2);
        e.none(3000, "apr 31");
        e.fault("apr 32", 4);
        e.none(3000, "feb 30");
        e.none(3000, "feb 31");
        e.fault("mar 0 2008", 4);
        e.fine("mar 31 2008", 1);
        e.fault("mar 32 2008", 4);
    }

    private static void wholeDates() {
        Edge e = new Edge("Term 1", "MONTHNAME N YEAR: that DAY, WEIGHT 3.");
        single(e, 3000, "jan 1 2000", 0, 3);
        e.fault("dec 31 1999", 7);
        single(e, 3000, "may 18 2027", 9999, 3);
        e.none(3000, "may 19 2027");
        e.none(3000, "dec 31 2027");
        e.fault("jan 1 2028", 6);
        single(e, 3000, "feb 29 2004", 1520, 3);
        e.none(3000, "feb 29 2005");
        e.none(3000, "feb 30 2004");
        single(e, 3000, "apr 30 2008", 3042, 3);
        e.none(3000, "apr 31 2008");
        single(e, 3000, "dec 31 2008", 3287, 3);
    }

    private static void wholeYears() {
        Edge e = new Edge("Term 1", "YEAR (2000 .. 2027): all of it, WEIGHT 3.");
        e.fault("1999", 0);
        e.means(3000, "2000", 0, 365, 3, 3);
        e.means(3000, "2001", 366, 730, 3, 3);
        e.means(3000, "2026", 9497, 9861, 3, 3);
        e.none(3000, "2027");
        e.means(3000, "2027 or today", 3000, 3000, 0, 3);
        e.fault("2028", 0);
    }
}
