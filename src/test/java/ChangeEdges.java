/** Edges of changes and of what is kept: promises 24 to 35, term 2, and how long an object is used. */
final class ChangeEdges {
    static void all() {
        calls512();
        rowToldLast();
        setsAreBits();
        questions();
        refused();
        textIsEmptied();
        noneAhead();
        rowStays();
        ref();
        refNot();
        rules();
        rulesNot();
        narrows();
        narrowsNot();
        drops();
        dropsNot();
        goes();
        goesNot();
        emptyWork();
        acts();
        actsOneByOne();
        oneCouldNotBe();
        workFaults();
        undoesAll();
        eightAreKept();
        suchAsWereDone();
        workAsOne();
        allIsAsAheadOfIt();
        undoNot();
        againForgets();
        yearsAreForgotten();
        yearsRefusals();
        yearsNot();
        draws();
        keeps();
        keepNot();
        again();
        againNot();
        counts();
        countNot();
        row();
        rowNot();
    }

    private static void calls512() {
        Edge e = new Edge("What it is", "An object is used for at most 512 calls after it has been made;");
        for (int call = 1; call <= 511; call++) {
            e.is("call " + call, e.x.ref(call % 2 == 1 ? 7 : 8), call == 1 ? 3000 : call % 2 == 1 ? 8 : 7);
        }
        e.is("call 512", e.x.count(2), 7);
    }

    private static void rowToldLast() {
        Edge e = new Edge("Term 2", "ROW: numbers told last by a call that says so.");
        e.row("a new object");
        e.x.date(77);
        e.row("date(77)", 3, 18, 5);
        e.is("means", e.text("fri").x.means(3000), 2);
        e.row("eight", 3002, 3002, 0, 3, 2995, 2995, 0, 1);
        e.is("on(5)", e.x.on(5), 0);
        e.row("one alone", 0);
    }

    private static void setsAreBits() {
        Edge e = new Edge("Term 2", "Sets are bits.");
        e.tells(5, -1, "mon or tue or wed", 6);
        e.counts(0, 32);
        e.tells(0, -1, "today", 1);
        e.counts(0, 33);
        e.is("on(3000)", e.x.on(3000), 33);
        e.row("event 0 must", 1);
        e.x.rules(5, 5, true);
        e.x.order(3, 0, 5);
        e.is("readings(5)", e.x.readings(5), 6);
        e.row("all but the sixth, the fifth", 31, 16);
        e.x.order(0, 0, 5);
        e.is("the first or the second", e.x.conflict(), 1);
        e.x.order(3, 5, 0);
        e.is("the second", e.x.conflict(), 2);
    }

    private static void questions() {
        Edge e = new Edge("Term 2", "Questions change nothing.");
        e.three().x.order(0, 0, 1);
        e.x.sign(0x6e6e6e6e);
        e.x.date(5);
        e.x.day(2000, 1, 1);
        e.x.moved(5, 1, 1);
        e.x.readings(0);
        e.x.reading(0, 0, 0);
        e.x.hull(0);
        e.x.told(0);
        e.x.choices();
        e.x.best();
        e.x.other();
        e.x.conflict();
        e.x.without(0);
        e.x.with(0, 1, 0);
        e.x.asks();
        e.x.on(3000);
        e.x.busiest();
        e.x.free(3000, 3);
        e.x.years(5, 20);
        int[] want = {7, 1, 3000, 6, 6, 4, 4, 2, 4};
        for (int what = 0; what < want.length; what++) {
            e.counts(what, want[what]);
        }
        e.is("choices()", e.x.choices(), 2);
        e.is("best()", e.x.best(), 7);
        e.row("best()", 1, 0, 0, -1, -1, -1);
        e.is("undo()", e.x.undo(), 3);
        e.is("choices()", e.x.choices(), 8);
    }

    private static void refused() {
        Edge e = new Edge("Term 2", "Refused calls answer NONE, or false, and change nothing but THE TEXT");
        e.three().x.order(0, 0, 1);
        e.x.keep(1);
        e.x.date(77);
        e.x.sign(0x20202020);
        e.is("end", e.x.end(5), false);
        e.is("order", e.x.order(5, 0, 1), -1);
        e.is("order", e.x.order(0, 0, 1), -2);
        e.is("ref", e.x.ref(10000), -1);
        e.is("ref", e.x.ref(3000), -2);
        e.is("rules", e.x.rules(0, 2, true), -1);
        e.is("rules", e.x.rules(0, 0, false), -2);
        e.is("drops", e.x.drops(6), -1);
        e.is("drops", e.x.drops(5), -2);
        e.is("goes", e.x.goes(1), -1);
        e.is("years", e.x.years(1, 0), -1);
        e.is("keep", e.x.keep(2), false);
        e.is("again", e.x.again(0), false);
        e.is("count", e.x.count(9), -1);
        e.row("the row", 3, 18, 5);
        int[] want = {7, 1, 3000, 6, 6, 4, 4, 3, 4};
        for (int what = 0; what < want.length; what++) {
            e.counts(what, want[what]);
        }
        e.is("tells", e.x.tells(0, 0), -1);
        e.counts(8, 0);
        want[8] = 0;
        for (int what = 0; what < want.length; what++) {
            e.counts(what, want[what]);
        }
        e.is("what is kept", e.x.again(1), true);
        e.is("choices()", e.x.choices(), 2);
    }

    private static void textIsEmptied() {
        Edge e = new Edge("Term 2", "THE TEXT, which a call that reads it empties.");
        int[][] answers = {{1, 1, -1}, {-1, -1, -2}};
        String[] texts = {"today", "foo"};
        for (int i = 0; i < 2; i++) {
            e.is("tells", e.text(texts[i]).x.tells(0, -1), answers[i][0]);
            e.counts(8, 0);
            e.is("tells of no event", e.text(texts[i]).x.tells(6, -1), -1);
            e.counts(8, 0);
            e.is("means", e.text(texts[i]).x.means(3000), answers[i][1]);
            e.counts(8, 0);
            e.is("means of no day", e.text(texts[i]).x.means(-1), -1);
            e.counts(8, 0);
            e.is("work", e.text(texts[i]).x.work(), answers[i][2]);
            e.counts(8, 0);
        }
        e.is("work", e.text("n").x.work(), 0);
        e.counts(8, 0);
        e.is("work", e.text("f0005").x.work(), 1);
        e.counts(8, 0);
        // Other calls leave it.
        e.text("tod").x.undo();
        e.x.keep(0);
        e.x.again(0);
        e.x.choices();
        e.counts(8, 3);
        e.is("the rest comes behind", e.x.sign('a' << 24 | 'y' << 16 | ' ' << 8 | ' '), 7);
        e.is("means", e.x.means(3000), 1);
    }

    private static void noneAhead() {
        Edge e = new Edge("Term 2", "NONE comes ahead of other answers below 0;");
        e.is("tells: no event, and a fault", e.text("today foo").x.tells(6, -1), -1);
        e.is("tells: a fault", e.text("today foo").x.tells(5, -1), -7);
        e.is("tells: not told, and no READING", e.text("2027").x.tells(5, 4), -1);
        e.is("tells: no READING", e.text("2027").x.tells(5, -1), -200);
        e.is("means: no DAY, and a fault", e.text("today foo").x.means(10000), -1);
        e.is("means: a fault", e.text("today foo").x.means(9999), -7);
        e.is("means: no DAY, and too many", e.text("mon or tue or wed or thu").x.means(-1), -1);
        e.is("moved: no UNIT, and out", e.x.moved(9999, 4, 1), -1);
        e.is("moved: out", e.x.moved(9999, 3, 1), -2);
        e.is("free: no n, and none", e.x.free(9999, 100), -1);
        e.is("free: none", e.x.free(9999, 99), -2);
        e.fresh();
        e.tenOrders();
        e.is("order: no kind, and ten", e.x.order(5, 0, 1), -1);
        e.is("order: ten", e.x.order(4, 0, 1), -3);
    }

    private static void rowStays() {
        Edge e = new Edge("Term 2", "the ROW stays with each answer that tells of a refusal or that there is none, "
            + "and with calls that do not tell of it.");
        e.three().x.order(0, 0, 1);
        e.x.order(0, 1, 0);
        e.x.date(77);
        long[] want = {3, 18, 5};
        e.is("date", e.x.date(-1), -1);
        e.is("readings", e.x.readings(3), -2);
        e.is("hull", e.x.hull(0), -2);
        e.is("told", e.x.told(2), -1);
        e.is("best", e.x.best(), -2);
        e.is("other", e.x.other(), -2);
        e.is("without", e.x.without(2), -1);
        e.is("with", e.x.with(0, 0, 1), -2);
        e.is("asks", e.x.asks(), -2);
        e.is("busiest", e.x.busiest(), -2);
        e.is("on", e.x.on(10000), -1);
        e.is("years", e.x.years(1, 21), -1);
        e.is("narrows", e.x.narrows(), -3);
        e.is("means", e.text("2027").x.means(3000), -200);
        e.is("work", e.text("x").x.work(), -1);
        e.row("refusals, and none", want);
        e.is("day", e.x.day(2000, 1, 1), 0);
        e.is("moved", e.x.moved(0, 0, 1), 1);
        e.is("reading", e.x.reading(0, 0, 0), 3002);
        e.is("tells", e.text("today").x.tells(4, -1), 1);
        e.is("free", e.x.free(0, 1), 0);
        e.is("ref", e.x.ref(5), 3000);
        e.is("rules", e.x.rules(0, 0, true), 1);
        e.is("drops", e.x.drops(4), 3);
        e.is("goes", e.x.goes(1), 1);
        e.is("narrows", e.x.narrows(), 1);
        e.is("order", e.x.order(1, 4, 5), 1);
        e.is("undo", e.x.undo(), 7);
        e.is("keep", e.x.keep(0), true);
        e.is("again", e.x.again(0), true);
        e.is("sign", e.x.sign(0), 4);
        e.is("end", e.x.end(0), true);
        e.is("conflict", e.x.conflict(), -2);
        e.row("calls that do not tell of it", want);
    }

    private static void ref() {
        Edge e = new Edge("Promise 24", "REF becomes a DAY (EVENTS stay as they were told): what it was.");
        e.told("today");
        e.is("ref(0)", e.x.ref(0), 3000);
        e.is("ref(9999)", e.x.ref(9999), 0);
        e.counts(2, 9999);
        e.is("what was told stays", e.x.reading(0, 0, 0), 3000);
        e.tells(1, -1, "today", 1);
        e.is("what is told now", e.x.reading(1, 0, 0), 9999);
        e.tells(2, 0, "today", 1);
        e.is("by another event REF does not matter", e.x.reading(2, 0, 0), 3000);
    }

    private static void refNot() {
        Edge e = new Edge("Promise 24", "-2: it is so; NONE: no such DAY.");
        e.is("ref(3000)", e.x.ref(3000), -2);
        e.is("ref(-1)", e.x.ref(-1), -1);
        e.is("ref(10000)", e.x.ref(10000), -1);
        e.is("ref(least)", e.x.ref(Integer.MIN_VALUE), -1);
        e.counts(2, 3000);
        e.counts(6, 0);
        e.is("ref(2999)", e.x.ref(2999), 3000);
        e.is("ref(2999)", e.x.ref(2999), -2);
        e.is("ref(3000)", e.x.ref(3000), 2999);
        e.counts(6, 2);
    }

    private static void rules() {
        Edge e = new Edge("Promise 25", "A READING is RULED OUT (is true), or in again: how many are in.");
        e.told("mon or tue or wed", "fri");
        for (int i = 5; i >= 0; i--) {
            e.is("rules(0, " + i + ", true)", e.x.rules(0, i, true), i);
        }
        e.is("choices()", e.x.choices(), 0);
        for (int i = 0; i < 6; i++) {
            e.is("rules(0, " + i + ", false)", e.x.rules(0, i, false), i + 1);
        }
        e.is("choices()", e.x.choices(), 12);
        e.counts(4, 8);
        e.is("event 1", e.x.rules(1, 1, true), 1);
        e.is("event 1", e.x.rules(1, 0, true), 0);
        e.tells(5, -1, "mon or tue or wed", 6);
        e.is("event 5", e.x.rules(5, 5, true), 5);
        e.is("event 5", e.x.rules(5, 5, false), 6);
    }

    private static void rulesNot() {
        Edge e = new Edge("Promise 25", "-2: it is so; NONE: none such.");
        e.told("fri");
        e.is("it is in", e.x.rules(0, 1, false), -2);
        e.is("rules(0, 1, true)", e.x.rules(0, 1, true), 1);
        e.is("it is out", e.x.rules(0, 1, true), -2);
        e.is("rules(0, 1, false)", e.x.rules(0, 1, false), 2);
        for (boolean is : new boolean[] {true, false}) {
            e.is("READING 2", e.x.rules(0, 2, is), -1);
            e.is("READING -1", e.x.rules(0, -1, is), -1);
            e.is("READING 32", e.x.rules(0, 32, is), -1);
            e.is("not told", e.x.rules(1, 0, is), -1);
            e.is("event -1", e.x.rules(-1, 0, is), -1);
            e.is("event 6", e.x.rules(6, 0, is), -1);
        }
        e.counts(4, 2);
        e.counts(6, 3);
    }

    private static void narrows() {
        Edge e = new Edge("Promise 26", "READINGS that are not LEFT are RULED OUT: how many are.");
        e.three().x.order(0, 0, 1);
        e.x.rules(2, 1, true);
        e.is("3002 and 2994", e.x.narrows(), 2);
        e.is("readings(0)", e.x.readings(0), 2);
        e.row("2995 is in", 2, 2);
        e.is("readings(1)", e.x.readings(1), 2);
        e.row("3001 is in", 1, 1);
        e.counts(4, 3);
        e.counts(5, 3);
        e.is("one to undo more", e.x.undo(), 5);
        e.counts(4, 5);
        e.told("fri", "thu", "fri", "thu", "fri", "thu");
        e.x.order(0, 0, 1);
        e.x.order(0, 4, 5);
        e.is("of the first and the last events", e.x.narrows(), 4);
        int[] in = {2, 1, 3, 3, 2, 1};
        for (int event = 0; event < 6; event++) {
            e.is("readings(" + event + ")", e.x.readings(event), 2);
            e.row("readings(" + event + ")", in[event], in[event]);
        }
        e.counts(3, 12);
        e.counts(4, 8);
    }

    private static void narrowsNot() {
        Edge e = new Edge("Promise 26", "-2: none is; -3: there is no CHOICE.");
        e.is("no event is told", e.x.narrows(), -3);
        e.three();
        e.is("all are LEFT", e.x.narrows(), -2);
        e.x.rules(0, 0, true);
        e.is("what is not LEFT is out", e.x.narrows(), -2);
        e.x.order(0, 0, 1);
        e.is("2994", e.x.narrows(), 1);
        e.is("none any more", e.x.narrows(), -2);
        e.x.order(0, 1, 0);
        e.is("no CHOICE", e.x.narrows(), -3);
        e.counts(4, 4);
        e.counts(6, 7);
    }

    private static void drops() {
        Edge e = new Edge("Promise 27", "An EVENT is not told any more: how many are.");
        e.told("fri", "thu", "sat", "today", "today", "today").x.order(0, 0, 1);
        e.is("five are", e.x.drops(0), 5);
        e.is("readings(0)", e.x.readings(0), -2);
        e.is("the order stays", e.x.told(0), 1);
        e.is("four are", e.x.drops(5), 4);
        e.is("three are", e.x.drops(1), 3);
        e.is("two are", e.x.drops(3), 2);
        e.is("one is", e.x.drops(2), 1);
        e.is("none is", e.x.drops(4), 0);
        e.counts(0, 0);
        e.counts(3, 0);
        e.counts(4, 0);
        e.is("choices()", e.x.choices(), 0);
    }

    private static void dropsNot() {
        Edge e = new Edge("Promise 27", "-2: it is not; NONE: no such EVENT.");
        e.told("fri");
        e.is("drops(1)", e.x.drops(1), -2);
        e.is("drops(5)", e.x.drops(5), -2);
        e.is("drops(6)", e.x.drops(6), -1);
        e.is("drops(-1)", e.x.drops(-1), -1);
        e.counts(6, 1);
        e.is("drops(0)", e.x.drops(0), 0);
        e.is("drops(0)", e.x.drops(0), -2);
        e.counts(6, 2);
    }

    private static void goes() {
        Edge e = new Edge("Promise 28", "ORDER i goes (those behind it get a number less): how many are left.");
        e.tenOrders();
        e.is("the first of ten", e.x.goes(0), 9);
        e.is("told(0)", e.x.told(0), 45);
        e.is("told(8)", e.x.told(8), 445);
        e.is("told(9)", e.x.told(9), -1);
        e.is("the last of nine", e.x.goes(8), 8);
        e.is("told(7)", e.x.told(7), 434);
        e.is("one between", e.x.goes(3), 7);
        e.is("told(2)", e.x.told(2), 145);
        e.is("told(3)", e.x.told(3), 245);
        for (int left = 6; left >= 0; left--) {
            e.is("goes(0)", e.x.goes(0), left);
        }
        e.counts(1, 0);
    }

    private static void goesNot() {
        Edge e = new Edge("Promise 28", "NONE: none such.");
        e.is("there is none", e.x.goes(0), -1);
        e.x.order(0, 0, 1);
        e.is("goes(1)", e.x.goes(1), -1);
        e.is("goes(-1)", e.x.goes(-1), -1);
        e.is("goes(greatest)", e.x.goes(Integer.MAX_VALUE), -1);
        e.counts(6, 1);
        e.is("goes(0)", e.x.goes(0), 0);
        e.is("goes(0)", e.x.goes(0), -1);
    }

    private static void emptyWork() {
        Edge e = new Edge("Promise 29", "THE TEXT tells A DAY'S WORK (an empty one: nothing)");
        e.three();
        e.work("", 0);
        e.row("nothing, eight CHOICES", 0, 8);
        e.counts(6, 3);
        e.fresh();
        e.work("", 0);
        e.row("nothing, no CHOICE", 0, 0);
        e.work(" ", -1);
    }

    private static void acts() {
        Edge e = new Edge("Promise 29", "o, three digits (kind, x, y) (order()); g, a digit (goes()); r, two digits "
            + "(EVENT, READING; rules() out); i, likewise (in again); n (narrows()); d, a digit (drops()); "
            + "f, four digits (ref())");
        e.three();
        e.work("o450", 1);
        e.is("told(0)", e.x.told(0), 450);
        e.work("o001", 1);
        e.is("told(1)", e.x.told(1), 1);
        e.work("g0", 1);
        e.is("told(0)", e.x.told(0), 1);
        e.work("r21", 1);
        e.is("it is out", e.x.reading(2, 1, 4), 0);
        e.work("i21", 1);
        e.is("it is in", e.x.reading(2, 1, 4), 1);
        e.work("n", 1);
        e.counts(4, 4);
        e.work("d2", 1);
        e.counts(0, 3);
        e.work("f0000", 1);
        e.counts(2, 0);
        e.work("f9999", 1);
        e.counts(2, 9999);
        e.work("f0123", 1);
        e.counts(2, 123);
        // Each is done with what those ahead of it leave.
        e.three().x.choices();
        e.work("o001n", 2);
        e.counts(4, 4);
        e.work("g0no021n", 1);
        e.row("none is not LEFT", 1, 2);
        e.three().x.choices();
        e.work("o001no021n", 4);
        e.counts(4, 3);
        e.fresh();
        e.work("o012o023o034o045o123o134o145o234o245o345", 10);
        e.work("g9", 1);
        e.work("g9", 0);
        e.work("o505o550o055o060o006", 0);
    }

    private static void actsOneByOne() {
        Edge e = new Edge("Promise 29", "ACTS one behind another, without signs between");
        e.three();
        e.work("o001nr20f2500d1", 5);
        e.row("event 0 has 2995, event 2 has 2996", 0, 1);
        e.three();
        e.work("o001 n", -5);
        e.work("o001,n", -5);
        e.work(" o001", -1);
        e.work("n ", -2);
        e.work("o 001", -2);
        e.counts(1, 0);
        // As many as THE TEXT takes.
        e.fresh();
        e.work("f0001f0002f0001f0002f0001f0002f0001f0002f0001f0002f0001f0002f0001f0002f0001f0002", 16);
        e.counts(2, 2);
        e.counts(6, 1);
        e.told("fri");
        e.work("r00i00".repeat(13), 26);
        e.counts(4, 2);
    }

    private static void oneCouldNotBe() {
        Edge e = new Edge("Promise 29", "they are done one by one, till one can't be (it answers below 0): how "
            + "many were "
            + "done; the ROW: 1 if one could not be, else 0, CHOICES then.");
        e.three();
        e.work("o001r00d2", 3);
        e.row("all were done", 0, 1);
        e.three();
        e.work("o001o001d2", 1);
        e.row("-2: it is there", 1, 2);
        e.counts(0, 7);
        e.work("g1d2", 0);
        e.row("NONE: no such order", 1, 2);
        e.counts(0, 7);
        e.work("g0g0", 1);
        e.row("NONE: none any more", 1, 8);
        e.work("nd2", 0);
        e.row("-2: none is ruled out", 1, 8);
        e.work("o001o010nd2", 2);
        e.row("-3: there is no CHOICE", 1, 0);
        e.work("d2d2", 1);
        e.row("-2: it is not told", 1, 0);
        e.work("f3000", 0);
        e.row("-2: it is so", 1, 0);
        e.work("d9", 0);
        e.work("r09", 0);
        e.work("r90", 0);
        e.work("i00", 0);
        e.work("o500", 0);
        e.row("no CHOICE still", 1, 0);
        e.work("g1", 1);
        e.row("all was done", 0, 1);
    }

    private static void workFaults() {
        Edge e = new Edge("Promise 29",
            "-1 - p: the sign at p can't stand there (its end, if it ends too early); nothing is done then.");
        String[] early = {"o", "o0", "o00", "g", "r", "r0", "i", "i0", "d", "f", "f0", "f00", "f000", "no", "o001g"};
        for (String text : early) {
            e.work(text, -1 - text.length());
        }
        String[] wrong = {"x", "oo", "o0o", "o00o", "gn", "rn", "r0n", "in", "i0n", "dn", "fn", "f0n", "f00n", "f000n"};
        for (String text : wrong) {
            e.work(text, -text.length());
        }
        char[] signs = {'/', ':', ' ', 0, 255, 'N', 'O', 'a', 'z', '0', '9'};
        for (char sign : signs) {
            e.work("" + sign, -1);
            e.work("n" + sign, -2);
        }
        e.work("g/", -2);
        e.work("g:", -2);
        e.work("g0", 0);
        e.work("g9", 0);
        e.counts(6, 0);
        e.three();
        e.x.date(77);
        e.work("o001d0r10f2500x", -15);
        e.work("o001d0r10f250", -14);
        e.counts(0, 7);
        e.counts(1, 0);
        e.counts(2, 3000);
        e.counts(4, 6);
        e.counts(6, 3);
        e.row("the row stays", 3, 18, 5);
        e.work("o001d0r10f2500", 4);
    }

    private static void undoesAll() {
        Edge e = new Edge("Promise 30",
            "The latest tells(), order(), ref(), rules(), narrows(), drops(), goes(), work()");
        e.three();
        e.x.order(0, 0, 1);
        e.is("narrows", e.x.narrows(), 2);
        e.is("undo", e.x.undo(), 4);
        e.counts(4, 6);
        e.is("order", e.x.undo(), 3);
        e.counts(1, 0);
        e.x.ref(5);
        e.is("ref", e.x.undo(), 3);
        e.counts(2, 3000);
        e.x.rules(0, 0, true);
        e.is("rules", e.x.undo(), 3);
        e.counts(4, 6);
        e.x.drops(0);
        e.is("drops", e.x.undo(), 3);
        e.counts(0, 7);
        e.x.order(1, 0, 1);
        e.x.order(2, 0, 1);
        e.x.goes(0);
        e.is("goes", e.x.undo(), 5);
        e.is("told(0)", e.x.told(0), 101);
        e.work("g1f0005", 2);
        e.is("work", e.x.undo(), 5);
        e.counts(1, 2);
        e.counts(2, 3000);
        e.tells(0, -1, "today", 1);
        e.is("tells", e.x.undo(), 5);
        e.is("reading(0, 1, 0)", e.x.reading(0, 1, 0), 2995);
        undoesOneAlone(e);
        // What can't be undone: keep(), years(), means(), sign(), end().
        e.three().x.order(0, 0, 1);
        e.x.ref(5);
        e.x.keep(0);
        e.x.years(1, 3);
        e.text("today").x.means(5);
        e.counts(6, 5);
    }

    /** Of two changes the latter alone is undone, of each kind. */
    private static void undoesOneAlone(Edge e) {
        for (int kind = 0; kind < 8; kind++) {
            e.three().x.order(0, 0, 1);
            e.x.ref(5);
            switch (kind) {
                case 0 -> e.tells(0, -1, "today", 1);
                case 1 -> e.is("order", e.x.order(1, 0, 1), 1);
                case 2 -> e.is("ref", e.x.ref(6), 5);
                case 3 -> e.is("rules", e.x.rules(0, 0, true), 1);
                case 4 -> e.is("narrows", e.x.narrows(), 2);
                case 5 -> e.is("drops", e.x.drops(0), 2);
                case 6 -> e.is("goes", e.x.goes(0), 0);
                default -> e.work("g0", 1);
            }
            e.is("undo", e.x.undo(), 5);
            e.counts(0, 7);
            e.counts(1, 1);
            e.counts(2, 5);
            e.counts(4, 6);
            e.counts(5, 4);
        }
    }

    private static void eightAreKept() {
        Edge e = new Edge("Promise 30", "(of 8 that are kept, the latest ones;");
        for (int i = 1; i <= 7; i++) {
            e.x.ref(i);
        }
        e.counts(6, 7);
        e.x.ref(8);
        e.counts(6, 8);
        e.x.ref(9);
        e.counts(6, 8);
        for (int i = 7; i >= 0; i--) {
            e.is("undo()", e.x.undo(), i);
            e.counts(2, i + 1);
        }
        e.is("the ninth", e.x.undo(), -1);
        e.counts(2, 1);
        // Undone and done again: 8 once more.
        for (int i = 11; i <= 30; i++) {
            e.x.ref(i);
            if (i % 3 == 0) {
                e.x.undo();
            }
        }
        e.counts(6, 7);
        e.counts(2, 29);
    }

    private static void suchAsWereDone() {
        Edge e = new Edge("Promise 30", "such as were done;");
        e.three();
        e.counts(6, 3);
        e.tells(0, -1, "foo", -1);
        e.tells(0, -1, "2027", -200);
        e.x.order(0, 0, 0);
        e.x.order(5, 0, 1);
        e.x.ref(3000);
        e.x.ref(-1);
        e.x.rules(0, 0, false);
        e.x.rules(0, 5, true);
        e.x.narrows();
        e.x.drops(5);
        e.x.goes(0);
        e.work("x", -1);
        e.work("", 0);
        e.counts(6, 3);
        e.x.order(0, 0, 1);
        e.x.order(0, 0, 1);
        e.counts(6, 4);
        e.is("the first of both", e.x.undo(), 3);
        e.counts(1, 0);
    }

    private static void workAsOne() {
        Edge e = new Edge("Promise 30", "work() of which one ACT was done, as one)");
        e.three();
        e.work("f0001f0002f0003", 3);
        e.counts(6, 4);
        e.is("all three", e.x.undo(), 3);
        e.counts(2, 3000);
        e.work("f0001f0001", 1);
        e.row("the second could not be", 1, 8);
        e.counts(6, 4);
        e.is("the first", e.x.undo(), 3);
        e.counts(2, 3000);
        e.work("f3000", 0);
        e.counts(6, 3);
        e.work("", 0);
        e.counts(6, 3);
        e.work("r00i00", 2);
        e.counts(6, 4);
    }

    private static void allIsAsAheadOfIt() {
        Edge e = new Edge("Promise 30",
            "is undone (all that 1. tells of is as ahead of it): how many are left that can be.");
        e.three().x.order(0, 0, 1);
        e.x.rules(2, 0, true);
        e.x.ref(77);
        e.work("g0i20d0d1f0005o345", 6);
        e.tells(2, -1, "today", 1);
        e.x.sign(0x20202020);
        e.x.date(77);
        e.is("undo()", e.x.undo(), 7);
        e.is("undo()", e.x.undo(), 6);
        e.counts(0, 7);
        e.counts(1, 1);
        e.counts(2, 77);
        e.counts(3, 6);
        e.counts(4, 5);
        e.counts(5, 3);
        e.is("told(0)", e.x.told(0), 1);
        e.is("reading(2, 0, 0)", e.x.reading(2, 0, 0), 3003);
        e.is("reading(2, 0, 4)", e.x.reading(2, 0, 4), 0);
        e.is("choices()", e.x.choices(), 1);
        e.counts(8, 4);
    }

    private static void undoNot() {
        Edge e = new Edge("Promise 30", "Refused: none.");
        e.is("a new object", e.x.undo(), -1);
        e.x.ref(5);
        e.is("one", e.x.undo(), 0);
        e.is("none", e.x.undo(), -1);
        e.counts(2, 3000);
        e.counts(6, 0);
        // An undo is none of those that can be undone.
        e.x.ref(5);
        e.x.ref(6);
        e.is("one", e.x.undo(), 1);
        e.is("the other", e.x.undo(), 0);
        e.counts(2, 3000);
    }

    private static void againForgets() {
        Edge e = new Edge("Promise 30", "(again() forgets them, if it is not refused.)");
        e.three();
        e.is("refused", e.x.again(0), false);
        e.counts(6, 3);
        e.x.keep(0);
        e.counts(6, 3);
        e.is("refused", e.x.again(1), false);
        e.counts(6, 3);
        e.is("again(0)", e.x.again(0), true);
        e.counts(6, 0);
        e.is("undo()", e.x.undo(), -1);
        e.counts(0, 7);
        e.x.ref(5);
        e.is("undo()", e.x.undo(), 0);
        e.counts(0, 7);
    }

    private static void yearsAreForgotten() {
        Edge e = new Edge("Promise 31", "n times (1 .. 20; it is forgotten)");
        e.three().x.order(4, 0, 1);
        e.is("n 0", e.x.years(1, 0), -1);
        e.is("n 1", e.x.years(1, 1) >= 0, true);
        e.is("n 20", e.x.years(1, 20) >= 0, true);
        e.is("n 21", e.x.years(1, 21), -1);
        e.counts(1, 1);
        e.counts(5, 6);
        e.counts(6, 4);
        e.is("told(0)", e.x.told(0), 401);
        e.is("choices()", e.x.choices(), 6);
    }

    /** What is drawn is written here once more, with longs. */
    private static void draws() {
        Edge e = new Edge("Promise 31", "A DRAW of n: R = R times 1103515245 + 12345 (as ints; R is seed at first), "
            + "(R without sign, by 65536) % n.");
        for (int seed : new int[] {0, 1, -1, 12345, Integer.MAX_VALUE, Integer.MIN_VALUE, -559038737}) {
            for (int n = 1; n <= 20; n++) {
                int choices = e.three().x.years(seed, n);
                long orders = e.x.row(0);
                long left = e.x.row(1);
                e.three();
                long r = seed & 0xffffffffL;
                for (int i = 0; i < n; i++) {
                    int[] drawn = new int[3];
                    for (int k = 0; k < 3; k++) {
                        r = (r * 1103515245L + 12345L) % (1L << 32);
                        drawn[k] = (int) (r / 65536 % (k == 0 ? 5 : 6));
                    }
                    e.x.order(drawn[0], drawn[1], drawn[2]);
                }
                e.is("years(" + seed + ", " + n + ")", choices, e.x.choices());
                e.is("its ORDERS", orders, e.x.count(1));
                e.is("its READINGS LEFT", left, e.x.count(5));
            }
        }
    }

    private static void yearsRefusals() {
        Edge e = new Edge("Promise 31",
            "DRAWS of 5, of 6, of 6: order() (what is refused is not done): CHOICES then; the ROW: ORDERS then, "
            + "READINGS LEFT.");
        e.tenOrders();
        e.tells(0, -1, "fri", 2);
        e.is("ten are there: all are refused", e.x.years(1, 20), 2);
        e.row("ten ORDERS, two READINGS", 10, 2);
        e.fresh();
        e.is("no event is told: no CHOICE", e.x.years(1, 20), 0);
        e.is("ten ORDERS at most", e.x.row(0), 10);
        e.is("no READING", e.x.row(1), 0);
    }

    private static void yearsNot() {
        Edge e = new Edge("Promise 31", "NONE: another n.");
        e.three();
        e.x.date(77);
        for (int n : new int[] {Integer.MIN_VALUE, -1, 0, 21, Integer.MAX_VALUE}) {
            e.is("years(1, " + n + ")", e.x.years(1, n), -1);
        }
        e.row("the row stays", 3, 18, 5);
        e.is("years(1, 1)", e.x.years(1, 1) >= 0, true);
        e.is("years(1, 20)", e.x.years(1, 20) >= 0, true);
    }

    private static void keeps() {
        Edge e = new Edge("Promise 32", "All that 1. tells of is kept under a number 0 .. 1: true.");
        e.three().x.order(0, 0, 1);
        e.x.rules(2, 0, true);
        e.x.ref(77);
        e.is("keep(0)", e.x.keep(0), true);
        e.work("g0i20d0d1f0005", 5);
        e.is("keep(1)", e.x.keep(1), true);
        e.is("again(0)", e.x.again(0), true);
        int[] want = {7, 1, 77, 6, 5, 3};
        for (int what = 0; what < want.length; what++) {
            e.counts(what, want[what]);
        }
        e.is("told(0)", e.x.told(0), 1);
        e.is("reading(2, 0, 4)", e.x.reading(2, 0, 4), 0);
        e.is("again(1)", e.x.again(1), true);
        want = new int[] {4, 0, 5, 2, 2, 2};
        for (int what = 0; what < want.length; what++) {
            e.counts(what, want[what]);
        }
        e.is("keep(0) anew", e.x.keep(0), true);
        e.x.ref(6);
        e.is("again(0)", e.x.again(0), true);
        e.counts(2, 5);
        e.counts(0, 4);
    }

    private static void keepNot() {
        Edge e = new Edge("Promise 32", "Refused: others.");
        for (int i : new int[] {Integer.MIN_VALUE, -1, 2, 32, 33, Integer.MAX_VALUE}) {
            e.is("keep(" + i + ")", e.x.keep(i), false);
        }
        e.is("nothing is kept", e.x.again(0), false);
        e.is("nothing is kept", e.x.again(1), false);
        e.is("keep(0)", e.x.keep(0), true);
        e.is("keep(1)", e.x.keep(1), true);
    }

    private static void again() {
        Edge e = new Edge("Promise 33", "It is as it was kept under a number.");
        e.three();
        e.x.keep(0);
        e.x.drops(0);
        e.x.ref(5);
        e.is("again(0)", e.x.again(0), true);
        e.counts(0, 7);
        e.counts(2, 3000);
        e.x.drops(1);
        e.is("again(0) once more", e.x.again(0), true);
        e.counts(0, 7);
        e.text("today");
        e.x.date(77);
        e.is("again(0)", e.x.again(0), true);
        e.row("the row stays", 3, 18, 5);
        e.is("THE TEXT stays", e.x.means(3000), 1);
    }

    private static void againNot() {
        Edge e = new Edge("Promise 33", "Refused: nothing kept.");
        e.told("today");
        e.is("again(0)", e.x.again(0), false);
        e.is("again(1)", e.x.again(1), false);
        e.x.keep(1);
        e.is("again(0)", e.x.again(0), false);
        for (int i : new int[] {Integer.MIN_VALUE, -1, 2, 32, 33, Integer.MAX_VALUE}) {
            e.is("again(" + i + ")", e.x.again(i), false);
        }
        e.counts(0, 1);
        e.counts(6, 1);
        e.is("again(1)", e.x.again(1), true);
    }

    private static void counts() {
        Edge e = new Edge("Promise 34", "What 0: EVENTS that are told (bits), 1: ORDERS, 2: REF, 3: READINGS of "
            + "all together, "
            + "4: of these in, 5: LEFT, 6: what can be undone, 7: numbers of the ROW, 8: signs of THE TEXT.");
        int[] at = {0, 0, 3000, 0, 0, 0, 0, 0, 0};
        for (int what = 0; what < at.length; what++) {
            e.counts(what, at[what]);
        }
        String six = "mon or tue or wed";
        e.told(six, six, six, six, six, six).x.rules(5, 0, true);
        e.x.order(3, 0, 1);
        // The last DAY of event 2 and the first one of event 3 are not LEFT.
        e.x.order(0, 2, 3);
        e.text(six).x.means(3000);
        e.text("today");
        int[] full = {63, 2, 3000, 36, 35, 33, 8, 24, 5};
        for (int what = 0; what < full.length; what++) {
            e.counts(what, full[what]);
        }
    }

    private static void countNot() {
        Edge e = new Edge("Promise 34", "NONE for another what.");
        e.is("count(8)", e.x.count(8), 0);
        for (int what : new int[] {Integer.MIN_VALUE, -1, 9, 10, Integer.MAX_VALUE}) {
            e.is("count(" + what + ")", e.x.count(what), -1);
        }
    }

    private static void row() {
        Edge e = new Edge("Promise 35", "Number i of the ROW.");
        e.is("six READINGS", e.text("mon or tue or wed").x.means(3000), 6);
        e.is("row(0)", e.x.row(0), 3005);
        e.is("row(23)", e.x.row(23), 1);
        e.is("best()", e.told("today").x.best(), 3);
        e.is("row(5)", e.x.row(5), -1);
    }

    private static void rowNot() {
        Edge e = new Edge("Promise 35", "NoSuchElementException: none such.");
        for (int i : new int[] {Integer.MIN_VALUE, -1, 0, 1, Integer.MAX_VALUE}) {
            e.rowThrows(i);
        }
        e.x.date(5);
        e.is("row(2)", e.x.row(2), 3);
        e.rowThrows(3);
        e.rowThrows(-1);
        e.is("means", e.text("mon or tue or wed").x.means(3000), 6);
        e.is("row(23)", e.x.row(23), 1);
        e.rowThrows(24);
        e.x.on(5);
        e.is("row(0)", e.x.row(0), 0);
        e.rowThrows(1);
    }
}
