/** Promises 2 to 5: texts and what phrases mean. DAY 3000 is Wednesday, March 19, 2008. */
public final class PhrasesTest {
    public static void main(String[] args) {
        signs();
        ends();
        byDays();
        byUnits();
        byDayNames();
        byMonths();
        ofSpans();
        togetherWithToAndOr();
        blanksAndDigits();
        edgesOfTime();
        faults();
        tooFewTooMany();
        tells();
        tellsByAnother();
        Due.finish();
    }

    private static void signs() {
        Due d = new Due("promise 2");
        d.is("sign", d.x.sign('t' << 24 | 'o' << 16 | 'd' << 8 | 'a'), 4);
        d.is("sign", d.x.sign('y' << 24 | ' ' << 16 | ' ' << 8 | ' '), 8);
        d.is("means", d.x.means(5), 1);
        for (int i = 1; i <= 20; i++) {
            d.is("sign", d.x.sign(-1), 4 * i);
        }
        d.is("sign of 84", d.x.sign(0), -1);
        d.is("count(8)", d.x.count(8), 80);
        d.is("end(77)", d.x.end(77), true);
        d.is("sign of 81", d.x.sign(0), -1);
        d.is("end(76)", d.x.end(76), true);
        d.is("sign of 80", d.x.sign(0), 80);
        d.is("a sign above 127 is in no word", d.x.means(5), -1);
    }

    private static void ends() {
        Due d = new Due("promise 3");
        d.is("end(0) of none", d.x.end(0), true);
        d.is("end(1) of none", d.x.end(1), false);
        d.is("end(-1)", d.x.end(-1), false);
        d.x.sign(0x746f6461);
        d.is("end(5)", d.x.end(5), false);
        d.is("end(4)", d.x.end(4), true);
        d.is("end(2)", d.x.end(2), true);
        d.is("end(3)", d.x.end(3), false);
        d.is("count(8)", d.x.count(8), 2);
    }

    private static void byDays() {
        Due d = new Due("promise 5, days");
        d.means(3000, "today", 3000, 3000, 0, 3);
        d.means(3000, "tomorrow", 3001, 3001, 0, 3);
        d.means(3000, "yesterday", 2999, 2999, 0, 3);
        d.means(3000, "in 3 day", 3003, 3003, 0, 3);
        d.means(3000, "3 day ago", 2997, 2997, 0, 3);
        d.means(3000, "in 1 week", 3007, 3007, 0, 3, 3005, 3011, 1, 1);
        d.means(3000, "1 week ago", 2993, 2993, 0, 3, 2991, 2997, 1, 1);
        d.means(3000, "in 1 month", 3031, 3031, 0, 3, 3013, 3042, 2, 1);
        d.means(3012, "in 1 month", 3042, 3042, 0, 3, 3013, 3042, 2, 1);
        d.means(3012, "1 month ago", 2981, 2981, 0, 3, 2953, 2981, 2, 1);
        d.means(3000, "1 year ago", 2634, 2634, 0, 3, 2557, 2921, 3, 1);
        d.means(2981, "in 1 year", 3346, 3346, 0, 3, 3288, 3652, 3, 1);
        d.means(3000, "in 99 day", 3099, 3099, 0, 3);
        d.meansNot(3000, "in 99 year", -200);
    }

    private static void byUnits() {
        Due d = new Due("promise 5, units");
        d.means(3000, "this day", 3000, 3000, 0, 3);
        d.means(3000, "next day", 3001, 3001, 0, 3);
        d.means(3000, "last day", 2999, 2999, 0, 3);
        d.means(3000, "this week", 2998, 3004, 1, 3);
        d.means(3000, "next week", 3005, 3011, 1, 3, 3001, 3007, 1, 1);
        d.means(3000, "last week", 2991, 2997, 1, 3, 2993, 2999, 1, 1);
        // On a Sunday, a Monday both are the same seven days: the greater weight.
        d.means(3004, "next week", 3005, 3011, 1, 3);
        d.means(2998, "last week", 2991, 2997, 1, 3);
        d.means(3000, "this month", 2982, 3012, 2, 3);
        d.means(3000, "next month", 3013, 3042, 2, 3);
        d.means(3000, "last month", 2953, 2981, 2, 3);
        d.means(3000, "this year", 2922, 3287, 3, 3);
        d.means(3000, "next year", 3288, 3652, 3, 3);
        d.means(3000, "last year", 2557, 2921, 3, 3);
    }

    private static void byDayNames() {
        Due d = new Due("promise 5, names of days");
        d.means(3000, "wed", 3000, 3000, 0, 3, 2993, 2993, 0, 1);
        d.means(3000, "thu", 3001, 3001, 0, 3, 2994, 2994, 0, 1);
        d.means(3000, "tue", 3006, 3006, 0, 3, 2999, 2999, 0, 1);
        d.means(3000, "this mon", 2998, 2998, 0, 3);
        d.means(3000, "this sun", 3004, 3004, 0, 3);
        d.means(3000, "next mon", 3005, 3005, 0, 3);
        d.means(3000, "next wed", 3007, 3007, 0, 3);
        d.means(3000, "next sun", 3011, 3011, 0, 3, 3004, 3004, 0, 2);
        d.means(3000, "last wed", 2993, 2993, 0, 3);
        d.means(3000, "last mon", 2998, 2998, 0, 3, 2991, 2991, 0, 2);
        d.means(3000, "last sat", 2996, 2996, 0, 3);
        d.means(3000, "sun after next", 3011, 3011, 0, 3, 3018, 3018, 0, 2);
        d.means(3000, "wed after next", 3014, 3014, 0, 3);
    }

    private static void byMonths() {
        Due d = new Due("promise 5, months");
        d.means(3000, "dec", 3257, 3287, 2, 3, 2891, 2921, 2, 2);
        d.means(3000, "mar", 2982, 3012, 2, 3);
        d.means(3012, "mar", 2982, 3012, 2, 3);
        d.means(3013, "mar", 3347, 3377, 2, 3, 2982, 3012, 2, 2);
        d.means(2982, "mar", 2982, 3012, 2, 3, 2616, 2646, 2, 2);
        d.means(3000, "mar 19", 3000, 3000, 0, 3, 2634, 2634, 0, 2);
        d.means(3000, "mar 18", 3364, 3364, 0, 3, 2999, 2999, 0, 2);
        d.means(3000, "feb 29", 4442, 4442, 0, 3, 2981, 2981, 0, 2);
        d.means(2981, "feb 29", 2981, 2981, 0, 3, 1520, 1520, 0, 2);
        d.means(5, "jun 31 2001 or jan 1 2000", 0, 0, 0, 3);
        d.means(3000, "feb 29 2004", 1520, 1520, 0, 3);
        d.meansNot(3000, "feb 29 2001", -200);
        d.meansNot(3000, "feb 30", -200);
        d.means(3000, "2026", 9497, 9861, 3, 3);
        d.means(3000, "2000", 0, 365, 3, 3);
        d.means(3000, "may 18 2027", 9999, 9999, 0, 3);
        d.meansNot(3000, "may 19 2027", -200);
    }

    private static void ofSpans() {
        Due d = new Due("promise 5, spans of spans");
        d.means(3000, "2 week after this week", 3018, 3018, 0, 3);
        d.means(3000, "2 week before this week", 2984, 2984, 0, 3);
        d.means(3000, "1 month after last month", 3010, 3010, 0, 3);
        d.means(3000, "1 day after next week", 3012, 3012, 0, 3, 3008, 3008, 0, 1);
        d.means(3000, "early this week", 2998, 2999, 1, 3);
        d.means(3000, "mid this week", 3000, 3002, 1, 3);
        d.means(3000, "late this week", 3003, 3004, 1, 3);
        d.means(3000, "mid mid this week", 3001, 3001, 1, 3);
        d.meansNot(3000, "early early this week", -200);
        d.means(3000, "late early 2008", 3004, 3043, 3, 3);
        d.meansNot(3000, "early today", -200);
        d.means(3000, "first wed of this week", 3000, 3000, 0, 3);
        d.means(3000, "last wed of this week", 3000, 3000, 0, 3);
        d.means(3000, "last mon of mar", 3012, 3012, 0, 3);
        d.means(3000, "first sat of mar", 2982, 2982, 0, 3);
        d.meansNot(3000, "first mon of today", -200);
        d.means(3000, "first wed of today", 3000, 3000, 0, 3);
        d.means(3000, "last fri of last month", 2981, 2981, 0, 3);
        d.meansNot(3000, "1 day before first mon of 2 day after 2007", -200);
        d.means(3000, "1 day before first wed of 2 day after 2007", 2922, 2922, 0, 3);
    }

    private static void togetherWithToAndOr() {
        Due d = new Due("promise 5, to and or");
        d.means(3000, "mon to fri", 2998, 3002, 0, 1);
        d.means(3000, "fri to mon", 3002, 3005, 0, 3, 2995, 3005, 0, 1, 2995, 2998, 0, 1);
        d.means(3000, "today to this month", 3000, 3012, 2, 3);
        d.means(3000, "this month to today", 2982, 3000, 2, 3);
        d.means(3000, "next week to next sun", 3005, 3011, 1, 3, 3001, 3011, 1, 1, 3001, 3004, 1, 1);
        d.means(3000, "today to today", 3000, 3000, 0, 3);
        d.meansNot(3000, "tomorrow to today", -200);
        d.means(3000, "today or tomorrow", 3000, 3000, 0, 3, 3001, 3001, 0, 3);
        d.means(3000, "tomorrow or today", 3001, 3001, 0, 3, 3000, 3000, 0, 3);
        // The same days again: the greater weight and the lesser grain of both, where the first one was.
        d.means(3000, "last tue or today or yesterday", 2999, 2999, 0, 3, 2992, 2992, 0, 2, 3000, 3000, 0, 3);
        d.means(3000, "tue or yesterday", 3006, 3006, 0, 3, 2999, 2999, 0, 3);
        d.means(3000, "this week or mon to this sun", 2998, 3004, 0, 3);
        d.means(3000, "this month to this month or mar 1 to mar 31", 2982, 3012, 0, 3);
    }

    private static void blanksAndDigits() {
        Due d = new Due("promise 5, words");
        d.means(3000, "in2week", 3014, 3014, 0, 3, 3012, 3018, 1, 1);
        d.means(3000, "  in   2  week  ", 3014, 3014, 0, 3, 3012, 3018, 1, 1);
        d.means(3000, "in 0002 day", 3002, 3002, 0, 3);
        d.means(3000, "mar01 2001", 425, 425, 0, 3);
        d.means(3000, "2001to2002or1day ago", 366, 1095, 3, 3, 2999, 2999, 0, 3);
        d.means(3000, "mid mid mid mid this month", 2997, 2997, 2, 3);
        d.meansNot(3000, "mid mid mid mid mid mid mid mid mid mid mid mid mid mid mid mid mid mid mid mar", -200);
        d.meansNot(3000, "mid mid mid mid mid mid mid mid mid mid mid mid mid mid mid mid mid mid mid mid", -80);
    }

    private static void edgesOfTime() {
        Due d = new Due("promise 5, edges of time");
        d.meansNot(0, "this week", -200);
        d.means(0, "next week", 2, 8, 1, 3, 1, 7, 1, 1);
        d.means(6, "last week or today", 6, 6, 0, 3);
        d.means(7, "last week", 0, 6, 1, 1);
        d.meansNot(0, "yesterday", -200);
        d.means(0, "last sat or sat", 0, 0, 0, 3);
        d.meansNot(0, "1 day ago", -200);
        d.meansNot(0, "last month", -200);
        d.meansNot(0, "last year", -200);
        d.means(0, "jan", 0, 30, 2, 3);
        d.means(0, "dec", 335, 365, 2, 3);
        d.meansNot(9999, "tomorrow", -200);
        d.meansNot(9999, "this month", -200);
        d.meansNot(9999, "2027", -200);
        d.means(9999, "this tue or wed or may 18", 9999, 9999, 0, 3, 9993, 9993, 0, 1, 9634, 9634, 0, 2);
        d.means(9990, "may or apr", 9952, 9981, 2, 2);
        d.means(9999, "1 day before tue after next or today", 9999, 9999, 0, 3);
        d.means(9999, "last week", 9991, 9997, 1, 3, 9992, 9998, 1, 1);
        d.is("means(10000)", d.text("today").x.means(10000), -1);
        d.is("count(8)", d.x.count(8), 0);
        d.is("means(-1)", d.text("~~").x.means(-1), -1);
        d.is("count(8)", d.x.count(8), 0);
    }

    private static void faults() {
        Due d = new Due("promise 5, faults");
        d.meansNot(3000, "", -1);
        d.meansNot(3000, "   ", -4);
        d.meansNot(3000, "next", -5);
        d.meansNot(3000, "next  ", -7);
        d.meansNot(3000, "next foo", -6);
        d.meansNot(3000, "monday", -1);
        d.meansNot(3000, "days", -1);
        d.meansNot(3000, "day", -1);
        d.meansNot(3000, "to", -1);
        d.meansNot(3000, "of", -1);
        d.meansNot(3000, "after", -1);
        d.meansNot(3000, "Mon", -1);
        d.meansNot(3000, "mon$", -4);
        d.meansNot(3000, "mon\tto tue", -4);
        d.meansNot(3000, "mon, tue", -4);
        d.meansNot(3000, "12345 day ago", -5);
        d.meansNot(3000, "today 12345", -11);
        d.meansNot(3000, "mar 00005", -9);
        d.meansNot(3000, "100 day ago", -1);
        d.meansNot(3000, "0 day ago", -1);
        d.meansNot(3000, "1999", -1);
        d.meansNot(3000, "2028", -1);
        d.meansNot(3000, "today 5", -7);
        d.meansNot(3000, "in 0 day", -4);
        d.meansNot(3000, "in 100 day", -4);
        d.meansNot(3000, "in tue", -4);
        d.meansNot(3000, "in 5", -5);
        d.meansNot(3000, "in 5 tue", -6);
        d.meansNot(3000, "5", -2);
        d.meansNot(3000, "5 tue", -3);
        d.meansNot(3000, "5 day", -6);
        d.meansNot(3000, "5 day to", -7);
        d.meansNot(3000, "5 day after", -12);
        d.meansNot(3000, "mar 32", -5);
        d.meansNot(3000, "mar 0", -5);
        d.meansNot(3000, "mar 2001", -5);
        d.meansNot(3000, "mar 5 1999", -7);
        d.meansNot(3000, "mar 5 2028", -7);
        d.meansNot(3000, "mar 5 2001 5", -12);
        d.meansNot(3000, "tue after", -10);
        d.meansNot(3000, "tue after today", -11);
        d.meansNot(3000, "next tue after next", -10);
        d.meansNot(3000, "this tue of mar", -10);
        d.meansNot(3000, "first mon", -10);
        d.meansNot(3000, "first mon to", -11);
        d.meansNot(3000, "first week of mar", -7);
        d.meansNot(3000, "last mon of", -12);
        d.meansNot(3000, "early", -6);
        d.meansNot(3000, "early or", -7);
        d.meansNot(3000, "2004 day", -6);
        d.meansNot(3000, "today or", -9);
        d.meansNot(3000, "today to tue to wed", -14);
        d.meansNot(3000, "today tue", -7);
        // What can't stand there comes ahead of what there is none of, or too many of.
        d.meansNot(3000, "2027 foo", -6);
        d.meansNot(3000, "mon or tue or wed or thu or", -28);
        // The first fault is told.
        d.meansNot(3000, "foo $ 12345", -1);
    }

    private static void tooFewTooMany() {
        Due d = new Due("promise 5, how many");
        d.is("six", d.text("mon or tue or wed").x.means(3000), 6);
        d.meansNot(3000, "mon or tue or wed or thu", -300);
        d.meansNot(3000, "mon or tue or wed or today to tomorrow", -300);
        d.is("six, told twice", d.text("mon or tue or wed or wed or tue or mon").x.means(3000), 6);
    }

    private static void tells() {
        Due d = new Due("promise 4");
        d.tells(0, -1, "next fri", 2);
        d.is("reading(0, 0, 0)", d.x.reading(0, 0, 0), 3009);
        d.is("reading(0, 1, 0)", d.x.reading(0, 1, 0), 3002);
        d.x.rules(0, 1, true);
        d.tells(0, -1, "tomorrow or next week", 3);
        d.is("all are in again", d.x.count(4), 3);
        d.is("reading(0, 1, 1)", d.x.reading(0, 1, 1), 3011);
        d.is("reading(0, 1, 2)", d.x.reading(0, 1, 2), 1);
        d.is("reading(0, 2, 3)", d.x.reading(0, 2, 3), 1);
        d.x.ref(3001);
        d.tells(5, -1, "today", 1);
        d.is("by the new REF", d.x.reading(5, 0, 0), 3001);
        d.is("told with the old one", d.x.reading(0, 0, 0), 3001);
        int undos = d.x.count(6);
        d.tells(0, -1, "today foo", -7);
        d.tells(0, -1, "2027", -200);
        d.tells(0, -1, "mon or tue or wed or thu", -300);
        d.tells(6, -1, "today", -1);
        d.tells(-1, -1, "today", -1);
        d.tells(6, -1, "today foo", -1);
        d.tells(0, 0, "today", -1);
        d.tells(0, 4, "today", -1);
        d.tells(0, 6, "today", -1);
        d.tells(0, -2, "today", -1);
        d.is("nothing was changed", d.x.count(3), 4);
        d.is("nothing is to be undone", d.x.count(6), undos);
        d.is("reading(0, 2, 0)", d.x.reading(0, 2, 0), 3001);
    }

    private static void tellsByAnother() {
        Due d = new Due("promise 4, by another event");
        d.tells(0, -1, "next fri", 2);
        d.tells(1, 0, "tomorrow or in 1 week", 6);
        d.is("reading(1, 0, 0)", d.x.reading(1, 0, 0), 3010);
        d.is("reading(1, 0, 3)", d.x.reading(1, 0, 3), 3);
        d.is("reading(1, 3, 0)", d.x.reading(1, 3, 0), 3003);
        d.is("the lesser weight", d.x.reading(1, 3, 3), 2);
        d.is("the lesser weight", d.x.reading(1, 5, 3), 1);
        d.tells(2, 0, "fri", 3);
        d.is("3009 by itself", d.x.reading(2, 0, 0), 3009);
        d.is("3002 by both", d.x.reading(2, 1, 0), 3002);
        d.is("its weight is the greater one of 1, 2", d.x.reading(2, 1, 3), 2);
        d.is("2995", d.x.reading(2, 2, 0), 2995);
        d.is("2995's weight", d.x.reading(2, 2, 3), 1);
        d.tells(3, 1, "today or tomorrow", -300);
        d.x.rules(0, 0, true);
        d.tells(2, 0, "fri", 2);
        d.is("of the one that is in alone", d.x.reading(2, 0, 0), 3002);
        d.x.rules(0, 1, true);
        d.tells(2, 0, "fri", -200);
        d.tells(2, 0, "fri fri", -5);
        d.x.drops(0);
        d.is("told events stay", d.x.count(0), 6);
        d.tells(2, 0, "fri", -1);
        d.tells(4, -1, "this month", 1);
        d.tells(5, 4, "today", 1);
        d.is("FROM of the other one", d.x.reading(5, 0, 0), 2982);
    }
}
