/** Edges of texts and words: promises 2 to 5, the WORDS of term 1, and the faults of a text. */
final class WordEdges {
    private static final String EIGHTY =
        "mid mid mid mid mid mid mid mid mid mid mid mid mid mid mid mid mid mid mid mid ";

    static void all() {
        fourSigns();
        moreThan80();
        firstSigns();
        notSoMany();
        longestRows();
        digits();
        blanks();
        signsAroundLetters();
        names();
        n();
        beginsWithANumber();
        cannotStand();
        endsTooEarly();
        atItself();
        cannotBe();
        noReading();
        moreThanSix();
        noSuchEvent();
        faultsFirst();
        inPlace();
        byRef();
        byAnother();
        meansReadings();
        meansAsTells();
        meansNoDay();
    }

    private static void fourSigns() {
        Edge e = new Edge("Promise 2", "Four signs come behind THE TEXT, of v the highest byte first: how many "
            + "it has.");
        e.is("'toda'", e.x.sign('t' << 24 | 'o' << 16 | 'd' << 8 | 'a'), 4);
        e.is("'y or'", e.x.sign('y' << 24 | ' ' << 16 | 'o' << 8 | 'r'), 8);
        e.is("' tom'", e.x.sign(' ' << 24 | 't' << 16 | 'o' << 8 | 'm'), 12);
        e.is("'orro'", e.x.sign('o' << 24 | 'r' << 16 | 'r' << 8 | 'o'), 16);
        e.is("'w   '", e.x.sign('w' << 24 | ' ' << 16 | ' ' << 8 | ' '), 20);
        e.is("means(3000)", e.x.means(3000), 2);
        e.is("the lowest byte first", e.x.sign('a' << 24 | 'd' << 16 | 'o' << 8 | 't'), 4);
        e.is("means(3000)", e.x.means(3000), -1);
        e.is("all bytes above 127", e.x.sign(-1), 4);
        e.is("the sign 255 at 0", e.x.means(3000), -1);
        e.is("all bytes 0", e.x.sign(0), 4);
        e.is("the sign 0 at 0", e.x.means(3000), -1);
    }

    private static void moreThan80() {
        Edge e = new Edge("Promise 2", "Refused: there would be more than 80.");
        for (int signs = 4; signs <= 76; signs += 4) {
            e.is("sign", e.x.sign(0x20202020), signs);
        }
        e.is("the 77th to the 80th", e.x.sign(0x20202020), 80);
        e.is("the 81st to the 84th", e.x.sign(0x20202020), -1);
        e.counts(8, 80);
        for (int signs = 79; signs >= 77; signs--) {
            e.x.end(signs);
            e.is("more than 80 behind " + signs, e.x.sign(0x20202020), -1);
            e.counts(8, signs);
        }
        e.x.end(76);
        e.is("80 behind 76", e.x.sign('t' << 24 | 'u' << 16 | 'e' << 8 | ' '), 80);
        e.is("all 80 are read", e.x.means(3000), 2);
        e.counts(8, 0);
    }

    private static void firstSigns() {
        Edge e = new Edge("Promise 3", "THE TEXT has its first n signs alone: true;");
        e.text("today or tue");
        e.is("all of them", e.x.end(12), true);
        e.counts(8, 12);
        e.is("five of them", e.x.end(5), true);
        e.counts(8, 5);
        e.is("'today'", e.x.means(3000), 1);
        e.is("none of none", e.x.end(0), true);
        e.text("today or tue").x.end(0);
        e.counts(8, 0);
        e.text("tue");
        e.is("what was cut off is gone", e.x.means(3000), 2);
    }

    private static void notSoMany() {
        Edge e = new Edge("Promise 3", "false if it has not so many, or n is below 0.");
        e.is("one of none", e.x.end(1), false);
        e.text("toda");
        e.is("end(5)", e.x.end(5), false);
        e.is("end(-1)", e.x.end(-1), false);
        e.is("end(greatest)", e.x.end(Integer.MAX_VALUE), false);
        e.is("end(least)", e.x.end(Integer.MIN_VALUE), false);
        e.counts(8, 4);
        e.is("end(4)", e.x.end(4), true);
        e.is("end(3)", e.x.end(3), true);
        e.is("end(4)", e.x.end(4), false);
        e.is("end(0)", e.x.end(0), true);
        e.is("end(1)", e.x.end(1), false);
    }

    private static void longestRows() {
        Edge e = new Edge("Term 1", "WORDS: longest rows of small letters, of digits (1 .. 4)");
        e.fine("mon", 2);
        e.fault("monday", 0);
        e.fault("mon day", 4);
        e.fault("nexttue", 0);
        e.fault("todayor tue", 0);
        e.fault("today orr tue", 6);
        e.fault("mo", 0);
        e.fault("m on", 0);
        e.fine("in2day", 1);
        e.fault("in 1 2 day", 5);
        e.fine("in 12 day", 1);
    }

    private static void digits() {
        Edge e = new Edge("Term 1", "of digits (1 .. 4)");
        e.means(3000, "in 7 day", 3007, 3007, 0, 3);
        e.means(3000, "in 17 day", 3017, 3017, 0, 3);
        e.means(3000, "in 017 day", 3017, 3017, 0, 3);
        e.means(3000, "in 0017 day", 3017, 3017, 0, 3);
        e.fault("in 00017 day", 7);
        e.means(3000, "2004", 1461, 1826, 3, 3);
        e.fault("20040", 4);
        e.fault("02004", 4);
    }

    private static void blanks() {
        Edge e = new Edge("Term 1", "any blanks (32) between them");
        e.means(3000, "mar5 2001", 429, 429, 0, 3);
        e.means(3000, "mar 5 2001", 429, 429, 0, 3);
        e.means(3000, "mar   5     2001", 429, 429, 0, 3);
        e.fault("mar 52001", 8);
        for (int sign : new int[] {0, 9, 10, 31, 33, 95, 127, 128, 160, 255}) {
            e.fault("mar" + (char) sign + "5 2001", 3);
        }
    }

    private static void signsAroundLetters() {
        Edge e = new Edge("Term 1", "longest rows of small letters, of digits");
        for (char sign : new char[] {'`', '{', '/', ':', '@', 'A', 'Z', '['}) {
            e.fault("" + sign, 0);
            e.fault("today" + sign, 5);
            e.fault("in 5" + sign, 4);
        }
        e.fault("Today", 0);
        e.fault("toDay", 0);
        e.fault("a", 0);
        e.fault("z", 0);
        e.fault("todayz", 0);
        e.fault("0", 0);
        e.fault("9", 1);
        e.means(3000, "in 90 day", 3090, 3090, 0, 3);
    }

    private static void names() {
        Edge e = new Edge("Term 1", "UNIT: day, week, month, year. DAYNAME: mon, tue, wed, thu, fri, sat, sun. "
            + "MONTHNAME: jan, feb, mar, apr, may, jun, jul, aug, sep, oct, nov, dec.");
        int[] units = {3000, 3000, 2998, 3004, 2982, 3012, 2922, 3287};
        String[] unitNames = {"day", "week", "month", "year"};
        for (int unit = 0; unit < 4; unit++) {
            e.means(3000, "this " + unitNames[unit], units[2 * unit], units[2 * unit + 1], unit, 3);
            e.fault("this " + unitNames[unit] + "s", 5);
            e.fault("this " + unitNames[unit].substring(1), 5);
        }
        String[] dayNames = {"mon", "tue", "wed", "thu", "fri", "sat", "sun"};
        for (int name = 0; name < 7; name++) {
            e.means(3000, "this " + dayNames[name], 2998 + name, 2998 + name, 0, 3);
            e.fault(dayNames[name] + "d", 0);
        }
        String[] monthNames = {"jan", "feb", "mar", "apr", "may", "jun", "jul", "aug", "sep", "oct", "nov", "dec"};
        for (int name = 0; name < 12; name++) {
            int day = Edge.day(2008, name + 1, 7);
            e.means(3000, monthNames[name] + " 7 2008", day, day, 0, 3);
            e.fault(monthNames[name] + "t", 0);
        }
    }

    private static void n() {
        Edge e = new Edge("Term 1", "N: 1 .. 99.");
        e.fault("in 0 day", 3);
        e.means(3000, "in 1 day", 3001, 3001, 0, 3);
        e.means(3000, "in 99 day", 3099, 3099, 0, 3);
        e.fault("in 100 day", 3);
        e.fault("0 day ago", 0);
        e.means(3000, "1 day ago", 2999, 2999, 0, 3);
        e.means(3000, "99 day ago", 2901, 2901, 0, 3);
        e.fault("100 day ago", 0);
        e.fault("0 day after today", 0);
        e.means(3000, "1 day after today", 3001, 3001, 0, 3);
        e.means(3000, "99 day after today", 3099, 3099, 0, 3);
        e.fault("100 day after today", 0);
        e.fault("0 day before today", 0);
        e.means(3000, "1 day before today", 2999, 2999, 0, 3);
        e.means(3000, "99 day before today", 2901, 2901, 0, 3);
        e.fault("100 day before today", 0);
    }

    private static void beginsWithANumber() {
        Edge e = new Edge("Term 1", "(A SPAN that begins with a number: 1 .. 99 is N, 2000 .. 2027 is YEAR.)");
        // Behind an N there must be more, a YEAR stands by itself, another number can't be.
        e.fault("0", 0);
        e.fault("1", 1);
        e.fault("99", 2);
        e.fault("100", 0);
        e.fault("1999", 0);
        e.means(3000, "2000", 0, 365, 3, 3);
        e.means(3000, "2026", Edge.day(2026, 1, 1), Edge.day(2026, 12, 31), 3, 3);
        e.none(3000, "2027");
        e.fault("2028", 0);
        e.fault("9999", 0);
        e.fault("2000 day ago", 5);
        e.fault("2027 day ago", 5);
        e.fault("1999 day ago", 0);
        e.fault("99 to 2000", 3);
        e.means(3000, "first sat of 2000", 0, 0, 0, 3);
        e.fault("first sat of 1999", 13);
        e.fault("first sat of 2028", 13);
    }

    private static void cannotStand() {
        Edge e = new Edge("Promise 4", "-1 - p: the WORD that begins at p can't stand there");
        for (String word : new String[] {"to", "or", "of", "after", "before", "ago", "day", "foo"}) {
            e.fault(word, 0);
            e.fault("  " + word, 2);
            e.fault("today or " + word, 9);
            e.fault("early " + word, 6);
        }
        e.fault("today today", 6);
        e.fault("today 5", 6);
        e.fault("today  ago", 7);
        e.fault("tue to wed to thu", 11);
        e.fault("this mar", 5);
        e.fault("next 5 day", 5);
        e.fault("next tue after next", 9);
        e.fault("last tue after next", 9);
        e.fault("tue after today", 10);
        e.fault("tue before next", 4);
        e.fault("tue after next week", 15);
        e.fault("first week of mar", 6);
        e.fault("first mon after mar", 10);
        e.fault("5 mon ago", 2);
        e.fault("5 day of mar", 6);
        e.fault("in 5 mar", 5);
        e.fault("in day", 3);
        e.fault("2004 mar", 5);
        e.fault("mar 5 2001 5", 11);
        e.fault("mar mar", 4);
        e.fault("5 day ago ago", 10);
    }

    private static void endsTooEarly() {
        Edge e = new Edge("Promise 4", "(at the length: it ends too early;");
        String[] early = {"", "next", "last", "this", "in", "in 5", "5", "5 day", "5 day after", "5 day before",
            "early", "mid", "late", "first", "first mon", "first mon of", "last mon of", "mon after", "today to",
            "today or", "today to today or"};
        for (String text : early) {
            e.fault(text, text.length());
            e.fault(text + "  ", text.length() + 2);
        }
        String[] late = {"next day", "last mon", "this sun", "in 5 day", "5 day ago", "5 day after mon", "early mar",
            "first mon of mar", "mon after next", "today to mon", "today or mon"};
        for (String text : late) {
            e.is("it ends well: '" + text + "'", e.told().text(text).x.means(3000) > 0, true);
        }
        e.fault(EIGHTY, 80);
        e.fine("mid mid mar", 1);
        e.fault(EIGHTY.substring(0, 79), 79);
    }

    private static void atItself() {
        Edge e = new Edge("Promise 4",
            "a sign that is in no WORD, a fifth digit, ahead of what else its number is: at itself;");
        e.fault("$", 0);
        e.fault("today $", 6);
        e.fault("today$or tue", 5);
        e.fault("today or tue.", 12);
        e.fault("in 5-day", 4);
        e.fault("next\0", 4);
        // Four digits, then five: a number that can't be, one that stands where none can, one that could be.
        e.fault("1234 day ago", 0);
        e.fault("12345 day ago", 4);
        e.fault("today 1234", 6);
        e.fault("today 12345", 10);
        e.fault("today 123456789", 10);
        e.fault("in 0099 year or", 15);
        e.fault("in 00099 year", 7);
        e.fault("mar 0005 20011", 13);
        e.fault("first 12345", 10);
        // What comes ahead of them is told first.
        e.fault("foo 12345", 0);
        e.fault("foo $", 0);
        e.fault("today 5 $", 6);
    }

    private static void cannotBe() {
        Edge e = new Edge("Promise 4", "a number that can't be: at its begin)");
        e.fault("today or 0 day ago", 9);
        e.fault("today or 100 day ago", 9);
        e.fault("today or in 00 day", 12);
        e.fault("today or in  999 day", 13);
        e.fault("mar 0", 4);
        e.fine("mar 1", 2);
        e.fine("mar 31", 2);
        e.fault("mar 32", 4);
        e.fault("mar 2001", 4);
        e.fault("mar 5 1999", 6);
        e.fine("mar 5 2000", 1);
        e.none(3000, "mar 5 2027 to mar 4 2027");
        e.fine("mar 5 2027", 1);
        e.fault("mar 5 2028", 6);
        e.fault("mar 5 5", 6);
    }

    private static void noReading() {
        Edge e = new Edge("Promise 4", "-200: it has no READING;");
        e.none(0, "yesterday");
        e.means(1, "yesterday", 0, 0, 0, 3);
        e.none(3000, "tomorrow to today");
        e.means(3000, "today to today", 3000, 3000, 0, 3);
        e.none(3000, "feb 30");
        e.none(3000, "feb 30 or early today");
        e.means(3000, "feb 30 or today", 3000, 3000, 0, 3);
        e.told("today or tomorrow");
        e.x.rules(0, 0, true);
        e.tells(1, 0, "today", 1);
        e.x.rules(0, 1, true);
        e.tells(1, 0, "today", -200);
        e.is("it stays as it was told", e.x.reading(1, 0, 0), 3001);
    }

    private static void moreThanSix() {
        Edge e = new Edge("Promise 4", "-300: there are more than 6.");
        String six = "mon or tue or wed";
        e.fine(six, 6);
        e.fine(six + " or today", 6);
        e.meansNot(3000, six + " or tomorrow", -300);
        e.meansNot(3000, six + " or thu", -300);
        e.told("today", "today or tomorrow", "today or tomorrow or in 3 day");
        e.tells(0, -1, six + " or tomorrow", -300);
        e.is("it stays as it was told", e.x.readings(0), 1);
        e.tells(3, 1, "today or in 9 day or in 20 day", 6);
        e.tells(4, 2, "today or in 9 day", 6);
        e.tells(4, 2, "today or in 9 day or yesterday", -300);
        e.is("it stays as it was told", e.x.readings(4), 6);
        e.tells(5, 2, "today or in 1 day or in 2 day", 6);
    }

    private static void noSuchEvent() {
        Edge e = new Edge("Promise 4", "NONE: no such EVENT, the other one is not told, or is that itself.");
        for (int event : new int[] {Integer.MIN_VALUE, -2, -1, 6, 32, Integer.MAX_VALUE}) {
            e.tells(event, -1, "today", -1);
            e.tells(event, event, "today", -1);
        }
        e.tells(0, -1, "today", 1);
        e.tells(5, -1, "today", 1);
        e.tells(5, 0, "tomorrow", 1);
        e.tells(0, 5, "tomorrow", 1);
        for (int by : new int[] {Integer.MIN_VALUE, -2, 1, 4, 6, 32, Integer.MAX_VALUE}) {
            e.tells(0, by, "today", -1);
        }
        e.tells(0, 0, "today", -1);
        e.tells(3, 3, "today", -1);
        e.is("all stays", e.x.reading(0, 0, 0), 3002);
        e.counts(0, 33);
        e.counts(6, 4);
        e.x.drops(5);
        e.tells(0, 5, "today", -1);
        e.tells(6, -1, "today foo", -1);
        e.tells(0, 0, "2027", -1);
    }

    private static void faultsFirst() {
        Edge e = new Edge("Promise 4",
            "(What -1 - p would tell comes ahead of -200, -300; the text is read as a whole ahead of these.)");
        e.none(3000, "2027");
        e.fault("2027 foo", 5);
        e.fault("2027 or", 7);
        e.fault("2027 or 2028", 8);
        e.meansNot(3000, "mon or tue or wed or thu", -300);
        e.fault("mon or tue or wed or thu or", 27);
        e.fault("mon or tue or wed or thu or 0", 28);
        e.fault("mon or tue or wed or thu or fri $", 32);
        e.told("today or tomorrow");
        e.x.rules(0, 0, true);
        e.x.rules(0, 1, true);
        e.tells(1, 0, "fri", -200);
        e.tells(1, 0, "fri fri", -5);
    }

    private static void inPlace() {
        Edge e = new Edge("Promise 4",
            "THE TEXT is a PHRASE that tells an EVENT (in place of what it was told; all READINGS are in)");
        e.tells(0, -1, "mon or tue or wed", 6);
        e.x.rules(0, 0, true);
        e.x.rules(0, 5, true);
        e.counts(4, 4);
        e.tells(0, -1, "wed or tue or mon", 6);
        e.counts(4, 6);
        e.is("another order", e.x.reading(0, 0, 0), 3000);
        e.x.rules(0, 0, true);
        e.tells(0, -1, "today", 1);
        e.is("it has one", e.x.readings(0), 1);
        e.row("it is in", 1, 1);
        e.readingThrows(0, 1, 0);
        e.tells(0, -1, "today", 1);
        e.counts(6, 7);
    }

    private static void byRef() {
        Edge e = new Edge("Promise 4", "R being REF (by NONE)");
        e.tells(0, ProseDates.NONE, "today", 1);
        e.x.ref(3001);
        e.tells(1, ProseDates.NONE, "today", 1);
        e.is("by the first REF", e.x.reading(0, 0, 0), 3000);
        e.is("by the second REF", e.x.reading(1, 0, 0), 3001);
    }

    private static void byAnother() {
        Edge e = new Edge("Promise 4", "or FROM of each READING that is in of another EVENT, one behind another "
            + "(WEIGHTS the lesser ones of both): how many READINGS.");
        e.told("next fri", "this week", "next week");
        // 3009 with the weight 3, 3002 with the weight 2.
        e.tells(3, 0, "in 1 week", 4);
        int[][] want = {{3016, 3016, 0, 3}, {3012, 3018, 1, 1}, {3009, 3009, 0, 2}, {3005, 3011, 1, 1}};
        for (int i = 0; i < 4; i++) {
            for (int what = 0; what < 4; what++) {
                e.is("reading(3, " + i + ", " + what + ")", e.x.reading(3, i, what), want[i][what]);
            }
        }
        e.tells(3, 1, "today", 1);
        e.is("FROM, not TO", e.x.reading(3, 0, 0), 2998);
        e.tells(3, 2, "today", 2);
        e.is("of 3005 .. 3011", e.x.reading(3, 0, 0) * 10 + e.x.reading(3, 0, 3), 30053);
        e.is("of 3001 .. 3007", e.x.reading(3, 1, 0) * 10 + e.x.reading(3, 1, 3), 30011);
        // By 3009: 3009 (3), 3002 (1); by 3002: 3002 (2), 2995 (1). 3002 comes twice.
        e.tells(3, 0, "fri", 3);
        e.is("3002 where it came first", e.x.reading(3, 1, 0), 3002);
        e.is("with the greater weight of both", e.x.reading(3, 1, 3), 2);
        e.x.rules(0, 0, true);
        e.tells(3, 0, "fri", 2);
        e.is("not by one that is ruled out", e.x.reading(3, 0, 0), 3002);
        e.is("its weight", e.x.reading(3, 0, 3), 2);
    }

    private static void meansReadings() {
        Edge e = new Edge("Promise 5", "What THE TEXT as a PHRASE would tell by a DAY of reference: how many READINGS; "
            + "the ROW: FROM, TO, GRAIN, WEIGHT of each.");
        e.means(3000, "today", 3000, 3000, 0, 3);
        e.means(3000, "mon or tue or wed", 3005, 3005, 0, 3, 2998, 2998, 0, 1, 3006, 3006, 0, 3, 2999, 2999, 0, 1,
            3000, 3000, 0, 3, 2993, 2993, 0, 1);
        e.fresh();
        e.is("by the DAY, not by REF", e.text("tomorrow or next month").x.means(50), 2);
        e.row("by DAY 50", 51, 51, 0, 3, 60, 90, 2, 3);
        e.counts(0, 0);
        e.counts(2, 3000);
        e.counts(6, 0);
        e.counts(8, 0);
        // What was read ahead of it, longer or shorter, leaves nothing behind.
        e.is("five words", e.text("yesterday to in 9 day").x.means(3000), 1);
        e.is("three words", e.text("mid this week").x.means(3000), 1);
        e.row("the middle of the week", 3000, 3002, 1, 3);
        e.is("six READINGS", e.text("mon or tue or wed").x.means(3000), 6);
        e.is("no PHRASE", e.text("first mon of 2000 to 5").x.means(3000), -23);
        e.is("one word", e.text("today").x.means(3000), 1);
        e.row("today", 3000, 3000, 0, 3);
    }

    private static void meansAsTells() {
        Edge e = new Edge("Promise 5", "-1 - p, -200, -300: as tells().");
        e.meansNot(3000, "today foo", -7);
        e.meansNot(3000, "", -1);
        e.meansNot(3000, EIGHTY, -81);
        e.meansNot(3000, "2027", -200);
        e.meansNot(3000, "mon or tue or wed or thu", -300);
        e.meansNot(3000, "mon or tue or wed or thu or 2027 foo", -34);
    }

    private static void meansNoDay() {
        Edge e = new Edge("Promise 5", "NONE: no such DAY.");
        e.means(0, "today", 0, 0, 0, 3);
        e.meansNot(-1, "today", -1);
        e.means(9999, "today", 9999, 9999, 0, 3);
        e.meansNot(10000, "today", -1);
        e.meansNot(10000, "today foo", -1);
        e.meansNot(10000, "2027", -1);
        e.counts(8, 0);
    }
}
