import java.util.NoSuchElementException;

/** What the tests share: an object of ProseDates, texts given to it, answers held against those that are due. */
class Due {
    private static int wrong = 0;

    private final String about;
    ProseDates x = new ProseDates();

    Due(String about) {
        this.about = about;
    }

    void is(String call, long got, long want) {
        if (got != want) {
            wrong++;
            System.out.println(about + ": " + call + " answered " + got + ", due is " + want);
        }
    }

    void is(String call, boolean got, boolean want) {
        is(call, got ? 1 : 0, want ? 1 : 0);
    }

    /** The ROW has these numbers and no other. */
    void row(String call, long... want) {
        is(call + ", then count(7)", x.count(7), want.length);
        for (int i = 0; i < want.length && i < x.count(7); i++) {
            is(call + ", then row(" + i + ")", x.row(i), want[i]);
        }
        rowThrows(-1);
        rowThrows(x.count(7));
    }

    void rowThrows(int i) {
        boolean thrown = false;
        try {
            x.row(i);
        } catch (NoSuchElementException none) {
            thrown = true;
        }
        is("row(" + i + ") throws", thrown, true);
    }

    void readingThrows(int event, int i, int what) {
        boolean thrown = false;
        try {
            x.reading(event, i, what);
        } catch (NoSuchElementException none) {
            thrown = true;
        }
        is("reading(" + event + ", " + i + ", " + what + ") throws", thrown, true);
    }

    /** THE TEXT is empty and gets this. */
    Due text(String t) {
        for (int i = 0; i < t.length(); i += 4) {
            int v = 0;
            for (int k = 0; k < 4; k++) {
                v = v << 8 | (i + k < t.length() ? t.charAt(i + k) : 0);
            }
            is("sign() of '" + t + "'", x.sign(v), i + 4);
        }
        is("end() of '" + t + "'", x.end(t.length()), true);
        return this;
    }

    /** Each phrase has an object of its own: what one answers behind its 512th call is free. */
    void means(int day, String t, long... want) {
        x = new ProseDates();
        is("means(" + day + ") '" + t + "'", text(t).x.means(day), want.length / 4);
        row("means(" + day + ") '" + t + "'", want);
    }

    void meansNot(int day, String t, int want) {
        x = new ProseDates();
        x.date(77);
        is("means(" + day + ") '" + t + "'", text(t).x.means(day), want);
        row("means(" + day + ") '" + t + "' leaves the row", 3, 18, 5);
    }

    void tells(int event, int by, String t, int want) {
        is("tells(" + event + ", " + by + ") '" + t + "'", text(t).x.tells(event, by), want);
        is("count(8) behind tells()", x.count(8), 0);
    }

    void work(String t, int want) {
        is("work() '" + t + "'", text(t).x.work(), want);
        is("count(8) behind work()", x.count(8), 0);
    }

    static void finish() {
        System.out.println(wrong == 0 ? "all answers are as due" : wrong + " answers are not as due");
        System.exit(wrong == 0 ? 0 : 1);
    }
}
