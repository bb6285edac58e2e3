import java.util.NoSuchElementException;

/**
 * Dates in prose: phrases turned to spans of days with all their readings, events told by them, orders between
 * events, and what is left by these. The words in capitals are those of the document's terms; as there, ahead
 * of a day means earlier than it, behind it means later.
 */
public final class ProseDates {
    public static final int NONE = -1;

    private static final int LAST_DAY = 9999;
    private static final int FIRST_YEAR = 2000;
    private static final int LAST_YEAR = 2027;
    // MONTHS are counted from January 2000 on; this is that of January 2028.
    private static final int MONTHS = 336;
    // What stands for a DAY that is not 0 .. 9999.
    private static final int OUT = -1;

    private static final int DAY = 0;
    private static final int WEEK = 1;
    private static final int MONTH = 2;
    private static final int YEAR = 3;

    private static final int FROM = 0;
    private static final int TO = 1;
    private static final int GRAIN = 2;
    private static final int WEIGHT = 3;
    private static final int PARTS = 4;

    private static final int EVENTS = 6;
    private static final int MOST_READINGS = 6;
    private static final int ALL_READINGS = 63;
    private static final int MOST_WEIGHT = 3;
    private static final int KINDS = 5;
    private static final int MOST_ORDERS = 10;
    private static final int MOST_SIGNS = 80;
    private static final int MOST_FREE_DAYS = 99;
    private static final int MOST_DRAWN = 20;
    private static final int KEEPS = 2;

    private static final int IT_IS_SO = -2;
    private static final int NO_SUCH = -2;
    private static final int TOO_MANY = -3;
    private static final int NO_CHOICE = -3;
    private static final int NO_READING = -200;
    private static final int TOO_MANY_READINGS = -300;

    private final Text text = new Text();
    private final Phrase phrase = new Phrase();
    private final Meaning meaning = new Meaning();
    private final Row rowTold = new Row();
    private final Story now = new Story();
    private final Story trial = new Story();
    private final int[] before = new int[Story.CELLS];
    private final Past past = new Past();
    private final int[][] kept = new int[KEEPS][Story.CELLS];
    private int keptBits = 0;
    private final Solver nowSolver = new Solver();
    private final Solver trialSolver = new Solver();
    private final Culprits culprits = new Culprits();
    private boolean nowIsSolved = false;

    public ProseDates() {
    }

    // ---- texts

    public int sign(int v) {
        return text.append(v);
    }

    public boolean end(int n) {
        return text.cut(n);
    }

    public int tells(int event, int by) {
        int fault = phrase.parse(text);
        text.clear();
        if (!isEvent(event) || by != NONE && (by == event || !now.isTold(by))) {
            return NONE;
        }
        if (fault != NONE) {
            return -1 - fault;
        }
        meaning.start();
        if (by == NONE) {
            meaning.gather(phrase, now.refDay(), MOST_WEIGHT);
        }
        for (int i = 0; i < MOST_READINGS; i++) {
            if (now.isIn(by, i)) {
                meaning.gather(phrase, now.value(by, i, FROM), now.value(by, i, WEIGHT));
            }
        }
        int answer = meaning.answer();
        if (answer > 0) {
            saveBefore();
            now.tell(event, meaning.found);
        }
        return recorded(answer);
    }

    public int means(int day) {
        int fault = phrase.parse(text);
        text.clear();
        if (!isDay(day)) {
            return NONE;
        }
        if (fault != NONE) {
            return -1 - fault;
        }
        meaning.start();
        meaning.gather(phrase, day, MOST_WEIGHT);
        int answer = meaning.answer();
        if (answer > 0) {
            tellFound();
        }
        return answer;
    }

    // ---- days

    public int day(int year, int month, int number) {
        return Calendar.dayOf(year, month, number);
    }

    public int date(int day) {
        if (!isDay(day)) {
            return NONE;
        }
        int month = Calendar.monthOf(day);
        rowTold.clear();
        rowTold.add(month % 12 + 1);
        rowTold.add(day - Calendar.monthStart(month) + 1);
        rowTold.add(Calendar.weekday(day));
        return FIRST_YEAR + month / 12;
    }

    public int moved(int day, int unit, int n) {
        if (!isDay(day) || unit < DAY || unit > YEAR || n < -LAST_DAY || n > LAST_DAY) {
            return NONE;
        }
        int to = Calendar.move(day, unit, n);
        return to == OUT ? NO_SUCH : to;
    }

    // ---- events

    public int readings(int event) {
        if (!isEvent(event)) {
            return NONE;
        }
        if (!now.isTold(event)) {
            return NO_SUCH;
        }
        rowTold.clear();
        rowTold.add(now.inBits(event));
        rowTold.add(solved().leftBits(event));
        return now.size(event);
    }

    public int reading(int event, int i, int what) throws NoSuchElementException {
        if (!now.has(event, i) || what < FROM || what > PARTS) {
            throw new NoSuchElementException("no such reading, or another what");
        }
        if (what == PARTS) {
            return now.isIn(event, i) ? 1 : 0;
        }
        return now.value(event, i, what);
    }

    public int hull(int event) {
        if (!isEvent(event)) {
            return NONE;
        }
        int left = solved().leftBits(event);
        if (left == 0) {
            return NO_SUCH;
        }
        int from = LAST_DAY;
        int to = 0;
        for (int i = 0; i < MOST_READINGS; i++) {
            if (hasBit(left, i)) {
                from = Math.min(from, now.value(event, i, FROM));
                to = Math.max(to, now.value(event, i, TO));
            }
        }
        rowTold.clear();
        rowTold.add(from);
        rowTold.add(to);
        return to - from + 1;
    }

    // ---- orders

    public int order(int kind, int x, int y) {
        saveBefore();
        return recorded(now.addOrder(kind, x, y, MOST_ORDERS));
    }

    public int told(int i) {
        if (!now.hasOrder(i)) {
            return NONE;
        }
        rowTold.clear();
        // A CHOICE is one by which all ORDERS hold, so in BEST none fails.
        rowTold.add(solved().total > 0 ? 1 : 2);
        rowTold.add(now.pairsThatHold(i));
        return now.code(i);
    }

    public int choices() {
        rowTold.clear();
        rowTold.add(now.choicesWithoutOrders());
        return solved().total;
    }

    public int best() {
        Solver solver = solved();
        if (solver.total == 0) {
            return NO_SUCH;
        }
        tellBest(solver);
        return solver.worth;
    }

    public int other() {
        Solver solver = solved();
        trial.load(now.cells);
        boolean differs = false;
        for (int event = 0; event < EVENTS; event++) {
            if (solver.hasOpenQuestion(event)) {
                trial.ruleOut(event, solver.bestReading(event), true);
                differs = true;
            }
        }
        if (!differs) {
            return NO_SUCH;
        }
        trialSolver.solve(trial);
        if (trialSolver.total == 0) {
            return NO_SUCH;
        }
        tellBest(trialSolver);
        return trialSolver.worth;
    }

    public int conflict() {
        if (now.choicesWithoutOrders() == 0) {
            return NO_CHOICE;
        }
        if (solved().total > 0) {
            return NO_SUCH;
        }
        culprits.find(now);
        rowTold.clear();
        rowTold.add(culprits.ways);
        return culprits.fewest;
    }

    public int without(int i) {
        if (!now.hasOrder(i)) {
            return NONE;
        }
        trial.load(now.cells);
        trial.removeOrder(i);
        trialSolver.solve(trial);
        rowTold.clear();
        rowTold.add(trialSolver.leftOfAll() - solved().leftOfAll());
        return trialSolver.total;
    }

    public int with(int kind, int x, int y) {
        trial.load(now.cells);
        int number = trial.addOrder(kind, x, y, MOST_ORDERS + 1);
        if (number < 0) {
            return number;
        }
        trialSolver.solve(trial);
        rowTold.clear();
        rowTold.add(solved().leftOfAll() - trialSolver.leftOfAll());
        return trialSolver.total;
    }

    public int asks() {
        Solver solver = solved();
        int asked = NO_SUCH;
        int fewest = 0;
        for (int event = 0; event < EVENTS; event++) {
            if (!solver.hasOpenQuestion(event)) {
                continue;
            }
            int most = solver.mostWithOneReading(event);
            if (asked == NO_SUCH || most < fewest) {
                asked = event;
                fewest = most;
            }
        }
        if (asked != NO_SUCH) {
            rowTold.clear();
            rowTold.add(fewest);
        }
        return asked;
    }

    // ---- on a day

    public int on(int day) {
        if (!isDay(day)) {
            return NONE;
        }
        Solver solver = solved();
        int may = 0;
        int must = 0;
        for (int event = 0; event < EVENTS; event++) {
            int left = solver.leftBits(event);
            int having = now.bitsThatMeet(event, left, day, day);
            if (having != 0) {
                may |= 1 << event;
                must |= having == left ? 1 << event : 0;
            }
        }
        rowTold.clear();
        rowTold.add(must);
        return may;
    }

    public int busiest() {
        Solver solver = solved();
        int busy = NO_SUCH;
        int most = 0;
        for (int event = 0; event < EVENTS; event++) {
            int left = solver.leftBits(event);
            for (int i = 0; i < MOST_READINGS; i++) {
                if (!hasBit(left, i)) {
                    continue;
                }
                // On the first of the busiest days some READING begins, else the day ahead of it were as busy.
                int day = now.value(event, i, FROM);
                int many = eventsThatMayHave(day);
                if (many > most || many == most && day < busy) {
                    busy = day;
                    most = many;
                }
            }
        }
        if (busy != NO_SUCH) {
            rowTold.clear();
            rowTold.add(most);
        }
        return busy;
    }

    public int free(int day, int n) {
        if (!isDay(day) || n < 1 || n > MOST_FREE_DAYS) {
            return NONE;
        }
        int from = day;
        // Each turn but the last one leaves at least one READING behind for good.
        for (int turn = 0; turn <= EVENTS * MOST_READINGS; turn++) {
            int last = lastDayOfThoseThatMeet(from, from + n - 1);
            if (last == OUT) {
                return from + n - 1 <= LAST_DAY ? from : NO_SUCH;
            }
            from = last + 1;
        }
        return NO_SUCH;
    }

    // ---- changes

    public int ref(int day) {
        saveBefore();
        return recorded(now.changeRef(day));
    }

    public int rules(int event, int i, boolean is) {
        saveBefore();
        return recorded(now.ruleOut(event, i, is));
    }

    public int narrows() {
        saveBefore();
        return recorded(now.keepOnlyLeft(solved()));
    }

    public int drops(int event) {
        saveBefore();
        return recorded(now.drop(event));
    }

    public int goes(int i) {
        saveBefore();
        return recorded(now.removeOrder(i));
    }

    public int work() {
        int fault = faultOfWork();
        if (fault != NONE) {
            text.clear();
            return -1 - fault;
        }
        saveBefore();
        int done = 0;
        int failed = 0;
        int p = 0;
        for (int i = 0; i < MOST_SIGNS && p < text.length && failed == 0; i++) {
            failed = act(p) < 0 ? 1 : 0;
            nowIsSolved = false;
            done += 1 - failed;
            p += 1 + digitsOfAct(text.signAt(p));
        }
        text.clear();
        if (done > 0) {
            recorded(done);
        }
        rowTold.clear();
        rowTold.add(failed);
        rowTold.add(solved().total);
        return done;
    }

    public int undo() {
        if (past.size == 0) {
            return NONE;
        }
        past.pop(now.cells);
        nowIsSolved = false;
        return past.size;
    }

    public int years(int seed, int n) {
        if (n < 1 || n > MOST_DRAWN) {
            return NONE;
        }
        trial.load(now.cells);
        int drawn = seed;
        for (int i = 0; i < n; i++) {
            drawn = nextDrawn(drawn);
            int kind = drawOf(drawn, KINDS);
            drawn = nextDrawn(drawn);
            int x = drawOf(drawn, EVENTS);
            drawn = nextDrawn(drawn);
            int y = drawOf(drawn, EVENTS);
            trial.addOrder(kind, x, y, MOST_ORDERS);
        }
        trialSolver.solve(trial);
        rowTold.clear();
        rowTold.add(trial.orders());
        rowTold.add(trialSolver.leftOfAll());
        return trialSolver.total;
    }

    // ---- kept

    public boolean keep(int i) {
        if (i < 0 || i >= KEEPS) {
            return false;
        }
        now.save(kept[i]);
        keptBits |= 1 << i;
        return true;
    }

    public boolean again(int i) {
        if (i < 0 || i >= KEEPS || !hasBit(keptBits, i)) {
            return false;
        }
        now.load(kept[i]);
        nowIsSolved = false;
        past.clear();
        return true;
    }

    public int count(int what) {
        switch (what) {
            case 0: return now.toldBits();
            case 1: return now.orders();
            case 2: return now.refDay();
            case 3: return now.readingsOfAll();
            case 4: return now.inOfAll();
            case 5: return solved().leftOfAll();
            case 6: return past.size;
            case 7: return rowTold.size;
            case 8: return text.length;
            default: return NONE;
        }
    }

    public long row(int i) throws NoSuchElementException {
        if (i < 0 || i >= rowTold.size) {
            throw new NoSuchElementException("the row has no such number");
        }
        return rowTold.numberAt(i);
    }

    // ---- what the calls share

    private static boolean isDay(int day) {
        return day >= 0 && day <= LAST_DAY;
    }

    private static boolean isEvent(int event) {
        return event >= 0 && event < EVENTS;
    }

    private static boolean hasBit(int bits, int i) {
        return (bits >> i & 1) == 1;
    }

    private void tellFound() {
        rowTold.clear();
        for (int i = 0; i < meaning.found.size; i++) {
            for (int what = FROM; what < PARTS; what++) {
                rowTold.add(meaning.found.value(i, what));
            }
        }
    }

    private void tellBest(Solver solver) {
        rowTold.clear();
        for (int event = 0; event < EVENTS; event++) {
            rowTold.add(solver.bestReading(event));
        }
    }

    private Solver solved() {
        if (!nowIsSolved) {
            nowSolver.solve(now);
            nowIsSolved = true;
        }
        return nowSolver;
    }

    private void saveBefore() {
        now.save(before);
    }

    private int recorded(int answer) {
        if (answer >= 0) {
            past.push(before);
            nowIsSolved = false;
        }
        return answer;
    }

    private int eventsThatMayHave(int day) {
        int many = 0;
        for (int event = 0; event < EVENTS; event++) {
            if (now.bitsThatMeet(event, solved().leftBits(event), day, day) != 0) {
                many++;
            }
        }
        return many;
    }

    private int lastDayOfThoseThatMeet(int from, int to) {
        int last = OUT;
        for (int event = 0; event < EVENTS; event++) {
            int meeting = now.bitsThatMeet(event, solved().leftBits(event), from, to);
            for (int i = 0; i < MOST_READINGS; i++) {
                if (hasBit(meeting, i)) {
                    last = Math.max(last, now.value(event, i, TO));
                }
            }
        }
        return last;
    }

    private static int digitsOfAct(int sign) {
        switch (sign) {
            case 'o': return 3;
            case 'g': return 1;
            case 'r': return 2;
            case 'i': return 2;
            case 'n': return 0;
            case 'd': return 1;
            case 'f': return 4;
            default: return NONE;
        }
    }

    private int faultOfWork() {
        int digits = 0;
        for (int p = 0; p < text.length; p++) {
            if (digits > 0) {
                if (!text.isDigit(p)) {
                    return p;
                }
                digits--;
            } else {
                digits = digitsOfAct(text.signAt(p));
                if (digits == NONE) {
                    return p;
                }
            }
        }
        return digits > 0 ? text.length : NONE;
    }

    private int act(int p) {
        int first = text.digitAt(p + 1);
        int second = text.digitAt(p + 2);
        int third = text.digitAt(p + 3);
        switch (text.signAt(p)) {
            case 'o': return now.addOrder(first, second, third, MOST_ORDERS);
            case 'g': return now.removeOrder(first);
            case 'r': return now.ruleOut(first, second, true);
            case 'i': return now.ruleOut(first, second, false);
            case 'n': return now.keepOnlyLeft(solved());
            case 'd': return now.drop(first);
            case 'f': return now.changeRef(first * 1000 + second * 100 + third * 10 + text.digitAt(p + 4));
            default: return NONE;
        }
    }

    private static int nextDrawn(int drawn) {
        return drawn * 1103515245 + 12345;
    }

    private static int drawOf(int drawn, int n) {
        return n < 1 ? 0 : (drawn >>> 16) % n;
    }

    /** The ROW. */
    private static final class Row {
        private final int[] numbers = new int[MOST_READINGS * PARTS];
        private int size = 0;

        void clear() {
            size = 0;
        }

        void add(int number) {
            if (size >= 0 && size < numbers.length) {
                numbers[size] = number;
                size++;
            }
        }

        int numberAt(int i) {
            return i >= 0 && i < size && i < numbers.length ? numbers[i] : 0;
        }
    }

    /** THE TEXT. */
    private static final class Text {
        private static final int NO_SIGN = -1;

        private final int[] signs = new int[MOST_SIGNS];
        private int length = 0;

        int append(int v) {
            if (length < 0 || length + 4 > MOST_SIGNS) {
                return NONE;
            }
            signs[length] = v >>> 24;
            signs[length + 1] = v >>> 16 & 255;
            signs[length + 2] = v >>> 8 & 255;
            signs[length + 3] = v & 255;
            length += 4;
            return length;
        }

        boolean cut(int n) {
            if (n < 0 || n > length) {
                return false;
            }
            length = n;
            return true;
        }

        void clear() {
            length = 0;
        }

        int signAt(int p) {
            return p >= 0 && p < length && p < MOST_SIGNS ? signs[p] : NO_SIGN;
        }

        boolean isDigit(int p) {
            int sign = signAt(p);
            return sign >= '0' && sign <= '9';
        }

        boolean isLetter(int p) {
            int sign = signAt(p);
            return sign >= 'a' && sign <= 'z';
        }

        int digitAt(int p) {
            return isDigit(p) ? signAt(p) - '0' : 0;
        }
    }

    /** Where YEARS, MONTHS and WEEKS lie; all of it takes DAYS from 0 on. */
    private static final class Calendar {
        private static final int FOUR_YEARS = 1461;
        private static final int[] DAYS_AHEAD = {0, 31, 59, 90, 120, 151, 181, 212, 243, 273, 304, 334};

        static int monthStart(int month) {
            if (month < 0 || month > MONTHS) {
                return OUT;
            }
            int year = month / 12;
            int inYear = month % 12;
            int leapDay = year % 4 == 0 && inYear > 1 ? 1 : 0;
            return year * 365 + (year + 3) / 4 + DAYS_AHEAD[inYear] + leapDay;
        }

        static int yearOf(int day) {
            int rest = day % FOUR_YEARS;
            return day / FOUR_YEARS * 4 + (rest < 366 ? 0 : (rest - 1) / 365);
        }

        static int monthOf(int day) {
            int month = yearOf(day) * 12;
            for (int i = 1; i < 12; i++) {
                if (monthStart(month + 1) <= day) {
                    month++;
                }
            }
            return month;
        }

        static int weekday(int day) {
            return (day + 5) % 7;
        }

        static int monday(int day) {
            return day - weekday(day);
        }

        /** The first DAY from another one on that bears a name. */
        static int named(int name, int day) {
            return day + (name - weekday(day) + 7) % 7;
        }

        static int dayOf(int year, int month, int number) {
            if (year < FIRST_YEAR || year > LAST_YEAR || month < 1 || month > 12) {
                return OUT;
            }
            return dayInMonth((year - FIRST_YEAR) * 12 + month - 1, number);
        }

        static int dayInMonth(int month, int number) {
            if (month < 0 || month >= MONTHS || number < 1 || number > 31) {
                return OUT;
            }
            int day = monthStart(month) + number - 1;
            return day < monthStart(month + 1) && day <= LAST_DAY ? day : OUT;
        }

        static int move(int day, int unit, int n) {
            int to = unit == WEEK ? day + 7 * n : day + n;
            if (unit == MONTH || unit == YEAR) {
                int month = monthOf(day);
                int toMonth = month + (unit == YEAR ? 12 * n : n);
                if (toMonth < 0 || toMonth >= MONTHS) {
                    return OUT;
                }
                int ahead = day - monthStart(month);
                to = Math.min(monthStart(toMonth) + ahead, monthStart(toMonth + 1) - 1);
            }
            return isDay(to) ? to : OUT;
        }
    }

    /** READINGS in the order in which they come. */
    private static final class Readings {
        private final int[] cells = new int[MOST_READINGS * PARTS];
        private int size = 0;
        private boolean wereTooMany = false;

        void clear() {
            size = 0;
            wereTooMany = false;
        }

        int value(int i, int what) {
            return i >= 0 && i < MOST_READINGS && what >= 0 && what < PARTS ? cells[i * PARTS + what] : 0;
        }

        void add(int from, int to, int grain, int weight) {
            if (from < 0 || to > LAST_DAY || from > to) {
                return;
            }
            if (size < 0 || size >= MOST_READINGS) {
                wereTooMany = true;
                return;
            }
            int cell = size * PARTS;
            cells[cell + FROM] = from;
            cells[cell + TO] = to;
            cells[cell + GRAIN] = grain;
            cells[cell + WEIGHT] = weight;
            size++;
        }

        /** Adds a READING, or lets the one of the same FROM and TO have the better of both. */
        void merge(int from, int to, int grain, int weight) {
            for (int i = 0; i < size && i < MOST_READINGS; i++) {
                int cell = i * PARTS;
                if (cells[cell + FROM] == from && cells[cell + TO] == to) {
                    cells[cell + GRAIN] = Math.min(cells[cell + GRAIN], grain);
                    cells[cell + WEIGHT] = Math.max(cells[cell + WEIGHT], weight);
                    return;
                }
            }
            add(from, to, grain, weight);
        }

        void addMonths(int month, int months, int grain, int weight) {
            if (month >= 0 && month + months <= MONTHS) {
                add(Calendar.monthStart(month), Calendar.monthStart(month + months) - 1, grain, weight);
            }
        }

        /** Adds the whole UNIT that comes so many UNITS behind the one that has a DAY. */
        void addUnit(int unit, int day, int behind, int weight) {
            if (unit == DAY) {
                add(day + behind, day + behind, DAY, weight);
            } else if (unit == WEEK) {
                int monday = Calendar.monday(day) + 7 * behind;
                add(monday, monday + 6, WEEK, weight);
            } else if (unit == MONTH) {
                addMonths(Calendar.monthOf(day) + behind, 1, MONTH, weight);
            } else {
                addMonths((Calendar.yearOf(day) + behind) * 12, 12, YEAR, weight);
            }
        }
    }

    /** The WORDS of a text, one behind another, up to the first one that is none. */
    private static final class Words {
        static final int MON = 4;
        static final int JAN = 11;
        static final int EARLY = 23;
        static final int MID = 24;
        static final int LATE = 25;
        static final int FIRST = 26;
        static final int LAST = 27;
        static final int TODAY = 28;
        static final int TOMORROW = 29;
        static final int YESTERDAY = 30;
        static final int IN = 31;
        static final int THIS = 32;
        static final int NEXT = 33;
        static final int OF = 34;
        static final int AFTER = 35;
        static final int BEFORE = 36;
        static final int AGO = 37;
        static final int UP_TO = 38;
        static final int OR = 39;
        static final int UNKNOWN = 40;
        static final int FINISH = 41;
        // A number n is the WORD of the number ZERO + n.
        static final int ZERO = 100;

        private static final String LIST = "day week month year mon tue wed thu fri sat sun jan feb mar apr may jun jul aug sep oct nov dec early mid late first last today tomorrow yesterday in this next of after before ago to or ";
        private static final int MOST_DIGITS = 4;

        private final int[] kinds = new int[MOST_SIGNS + 1];
        private final int[] begins = new int[MOST_SIGNS + 1];
        private int current = 0;
        // The WORD that comes, and where a fault of it is to be told.
        private int word = FINISH;
        private int begin = 0;

        void split(Text text) {
            int p = 0;
            int kind = UNKNOWN;
            for (int i = 0; i <= MOST_SIGNS; i++) {
                p = endOfBlanks(text, p);
                begins[i] = p;
                if (p >= text.length) {
                    kind = FINISH;
                } else if (text.isDigit(p)) {
                    p = endOfDigits(text, p);
                    kind = numberKind(text, begins[i], p);
                    // Of a number that is too long the sign that is too much is the fault.
                    begins[i] = kind == UNKNOWN ? p : begins[i];
                } else {
                    p = endOfLetters(text, p);
                    kind = letterKind(text, begins[i], p);
                }
                kinds[i] = kind;
                if (kind == FINISH || kind == UNKNOWN) {
                    break;
                }
            }
            current = 0;
            word = kinds[0];
            begin = begins[0];
        }

        void advance() {
            if (current >= 0 && current < MOST_SIGNS && word != FINISH && word != UNKNOWN) {
                current++;
                word = kinds[current];
                begin = begins[current];
            }
        }

        private static int endOfBlanks(Text text, int from) {
            int p = from;
            for (int i = 0; i < MOST_SIGNS && text.signAt(p) == ' '; i++) {
                p++;
            }
            return p;
        }

        private static int endOfDigits(Text text, int from) {
            int p = from;
            for (int i = 0; i < MOST_DIGITS && text.isDigit(p); i++) {
                p++;
            }
            return p;
        }

        private static int endOfLetters(Text text, int from) {
            int p = from;
            for (int i = 0; i < MOST_SIGNS && text.isLetter(p); i++) {
                p++;
            }
            return p;
        }

        private static int numberKind(Text text, int from, int end) {
            if (text.isDigit(end)) {
                return UNKNOWN;
            }
            int number = 0;
            for (int p = from; p < end; p++) {
                number = number * 10 + text.digitAt(p);
            }
            return ZERO + number;
        }

        private static int letterKind(Text text, int from, int end) {
            int listed = 0;
            int p = from;
            boolean same = true;
            for (int i = 0; i < LIST.length(); i++) {
                char c = LIST.charAt(i);
                if (c != ' ') {
                    same = same && p < end && text.signAt(p) == c;
                    p++;
                } else if (same && p == end) {
                    return listed;
                } else {
                    listed++;
                    p = from;
                    same = true;
                }
            }
            return UNKNOWN;
        }

        boolean isUnit() {
            return word >= DAY && word <= YEAR;
        }

        boolean isDayName() {
            return word >= MON && word < JAN;
        }

        boolean isMonthName() {
            return word >= JAN && word < EARLY;
        }

        /** Whether a SPAN may begin so, other than by a name or a number. */
        boolean beginsSpan() {
            return word >= EARLY && word <= NEXT;
        }

        boolean isNumber() {
            return word >= ZERO;
        }

        boolean isFrom(int least, int most) {
            return word >= ZERO + least && word <= ZERO + most;
        }

        int number() {
            return word - ZERO;
        }
    }

    /** A PHRASE as steps by which its READINGS are found from a DAY of reference. */
    private static final class Phrase {
        static final int UNIT_AT = 0;
        static final int MOVED_REF = 1;
        static final int NAME = 2;
        static final int THIS_NAME = 3;
        static final int NEXT_NAME = 4;
        static final int LAST_NAME = 5;
        static final int NAME_AFTER_NEXT = 6;
        static final int MONTH_NAME = 7;
        static final int MONTH_AND_N = 8;
        static final int WHOLE_DATE = 9;
        static final int WHOLE_YEAR = 10;
        static final int N_AFTER = 11;
        static final int N_BEFORE = 12;
        static final int EARLY_OF = 13;
        static final int MID_OF = 14;
        static final int LATE_OF = 15;
        static final int FIRST_OF = 16;
        static final int LAST_OF = 17;
        static final int HOLD = 18;
        static final int JOIN = 19;
        static final int TAKE = 20;

        private static final int WRONG = 0;
        private static final int PREFIX = 1;
        private static final int BASE = 2;

        private static final int STEP_CELLS = 4;
        // The shortest SPANS have three signs, two of them have four signs between: steps are far fewer than signs.
        private static final int MOST_STEPS = MOST_SIGNS;
        private static final int MOST_N = 99;
        private static final int MOST_NUMBER = 31;

        private final Words words = new Words();
        private final int[] steps = new int[MOST_STEPS * STEP_CELLS];
        private int size = 0;
        // What stands ahead of a SPAN, till that is read.
        private final int[] prefixes = new int[MOST_STEPS * STEP_CELLS];
        private int pending = 0;

        int step(int i, int cell) {
            return i >= 0 && i < MOST_STEPS && cell >= 0 && cell < STEP_CELLS ? steps[i * STEP_CELLS + cell] : 0;
        }

        /** Reads the text as a whole: NONE, or where what stands there can't. */
        int parse(Text text) {
            size = 0;
            words.split(text);
            boolean fine = readPart();
            for (int i = 0; i < MOST_SIGNS && fine && words.word == Words.OR; i++) {
                words.advance();
                fine = readPart();
            }
            return fine && words.word == Words.FINISH ? NONE : words.begin;
        }

        private boolean readPart() {
            if (!readSpan()) {
                return false;
            }
            if (words.word != Words.UP_TO) {
                base(TAKE, 0, 0, 0);
                return true;
            }
            words.advance();
            base(HOLD, 0, 0, 0);
            if (!readSpan()) {
                return false;
            }
            base(JOIN, 0, 0, 0);
            return true;
        }

        /** Of what stands ahead of a SPAN the last one is the first to be done with it. */
        private boolean readSpan() {
            pending = 0;
            int kind = PREFIX;
            for (int i = 0; i < MOST_SIGNS && kind == PREFIX; i++) {
                kind = readStep();
            }
            if (kind != BASE) {
                return false;
            }
            for (int i = pending - 1; i >= 0; i--) {
                int cell = i * STEP_CELLS;
                base(prefixes[cell], prefixes[cell + 1], prefixes[cell + 2], 0);
            }
            return true;
        }

        private int readStep() {
            if (words.isNumber()) {
                return readFromNumber();
            }
            if (words.isDayName()) {
                return readFromDayName();
            }
            if (words.isMonthName()) {
                return readFromMonthName();
            }
            if (!words.beginsSpan()) {
                return WRONG;
            }
            int word = words.word;
            words.advance();
            switch (word) {
                case Words.EARLY: return prefix(EARLY_OF, 0, 0);
                case Words.MID: return prefix(MID_OF, 0, 0);
                case Words.LATE: return prefix(LATE_OF, 0, 0);
                case Words.FIRST: return readBehindFirst();
                case Words.THIS: return readBehindThis(THIS_NAME, 0);
                case Words.NEXT: return readBehindThis(NEXT_NAME, 1);
                case Words.LAST: return readBehindThis(LAST_NAME, -1);
                case Words.TODAY: return base(UNIT_AT, DAY, 0, 0);
                case Words.TOMORROW: return base(UNIT_AT, DAY, 1, 0);
                case Words.YESTERDAY: return base(UNIT_AT, DAY, -1, 0);
                case Words.IN: return readBehindIn();
                default: return WRONG;
            }
        }

        private int readFromNumber() {
            int n = words.number();
            if (words.isFrom(FIRST_YEAR, LAST_YEAR)) {
                words.advance();
                return base(WHOLE_YEAR, n, 0, 0);
            }
            if (!words.isFrom(1, MOST_N)) {
                return WRONG;
            }
            words.advance();
            if (!words.isUnit()) {
                return WRONG;
            }
            int unit = words.word;
            words.advance();
            int way = words.word;
            if (way != Words.AFTER && way != Words.BEFORE && way != Words.AGO) {
                return WRONG;
            }
            words.advance();
            if (way == Words.AGO) {
                return base(MOVED_REF, unit, -n, 0);
            }
            return prefix(way == Words.AFTER ? N_AFTER : N_BEFORE, unit, n);
        }

        private int readBehindIn() {
            if (!words.isFrom(1, MOST_N)) {
                return WRONG;
            }
            int n = words.number();
            words.advance();
            if (!words.isUnit()) {
                return WRONG;
            }
            int unit = words.word;
            words.advance();
            return base(MOVED_REF, unit, n, 0);
        }

        private int readFromDayName() {
            int name = words.word - Words.MON;
            words.advance();
            if (words.word != Words.AFTER) {
                return base(NAME, name, 0, 0);
            }
            words.advance();
            if (words.word != Words.NEXT) {
                return WRONG;
            }
            words.advance();
            return base(NAME_AFTER_NEXT, name, 0, 0);
        }

        private int readFromMonthName() {
            int month = words.word - Words.JAN;
            words.advance();
            if (!words.isNumber()) {
                return base(MONTH_NAME, month, 0, 0);
            }
            if (!words.isFrom(1, MOST_NUMBER)) {
                return WRONG;
            }
            int n = words.number();
            words.advance();
            if (!words.isNumber()) {
                return base(MONTH_AND_N, month, n, 0);
            }
            if (!words.isFrom(FIRST_YEAR, LAST_YEAR)) {
                return WRONG;
            }
            int year = words.number();
            words.advance();
            return base(WHOLE_DATE, month, n, year);
        }

        private int readBehindFirst() {
            if (!words.isDayName()) {
                return WRONG;
            }
            int name = words.word - Words.MON;
            words.advance();
            if (words.word != Words.OF) {
                return WRONG;
            }
            words.advance();
            return prefix(FIRST_OF, name, 0);
        }

        private int readBehindThis(int step, int behind) {
            int word = words.word;
            if (words.isUnit()) {
                words.advance();
                return base(UNIT_AT, word, behind, 0);
            }
            if (!words.isDayName()) {
                return WRONG;
            }
            int name = word - Words.MON;
            words.advance();
            if (step == LAST_NAME && words.word == Words.OF) {
                words.advance();
                return prefix(LAST_OF, name, 0);
            }
            return base(step, name, 0, 0);
        }

        private int base(int step, int a, int b, int c) {
            int cell = size * STEP_CELLS;
            if (cell < 0 || cell + STEP_CELLS > steps.length) {
                return WRONG;
            }
            steps[cell] = step;
            steps[cell + 1] = a;
            steps[cell + 2] = b;
            steps[cell + 3] = c;
            size++;
            return BASE;
        }

        private int prefix(int step, int a, int b) {
            int cell = pending * STEP_CELLS;
            if (cell < 0 || cell + STEP_CELLS > prefixes.length) {
                return WRONG;
            }
            prefixes[cell] = step;
            prefixes[cell + 1] = a;
            prefixes[cell + 2] = b;
            pending++;
            return PREFIX;
        }
    }

    /** What a PHRASE means by DAYS of reference. */
    private static final class Meaning {
        private final Readings found = new Readings();
        private Readings span = new Readings();
        private Readings held = new Readings();
        private Readings spare = new Readings();

        void start() {
            found.clear();
        }

        /** How many READINGS were found, or why they tell nothing. */
        int answer() {
            if (found.wereTooMany) {
                return TOO_MANY_READINGS;
            }
            return found.size == 0 ? NO_READING : found.size;
        }

        /** Finds what the PHRASE tells by one DAY of reference, nothing of it with a greater WEIGHT than told. */
        void gather(Phrase phrase, int ref, int mostWeight) {
            for (int i = 0; i < phrase.size; i++) {
                int step = phrase.step(i, 0);
                int a = phrase.step(i, 1);
                int b = phrase.step(i, 2);
                if (step <= Phrase.NAME_AFTER_NEXT) {
                    span.clear();
                    addByDays(step, a, b, ref);
                } else if (step <= Phrase.WHOLE_YEAR) {
                    span.clear();
                    addByMonths(step, a, b, phrase.step(i, 3), ref);
                } else if (step < Phrase.HOLD) {
                    change(step, a, b);
                } else {
                    close(step, mostWeight);
                }
            }
        }

        private void addByDays(int step, int a, int b, int ref) {
            int monday = Calendar.monday(ref);
            switch (step) {
                case Phrase.UNIT_AT:
                    addUnitAt(a, b, ref);
                    break;
                case Phrase.MOVED_REF:
                    addMoved(a, b, ref);
                    break;
                case Phrase.NAME:
                    addDay(Calendar.named(a, ref), 3);
                    addDay(Calendar.named(a, ref) - 7, 1);
                    break;
                case Phrase.THIS_NAME:
                    addDay(monday + a, 3);
                    break;
                case Phrase.NEXT_NAME:
                    addDay(monday + 7 + a, 3);
                    addDay(Calendar.named(a, ref + 1), 2);
                    break;
                case Phrase.LAST_NAME:
                    addDay(Calendar.named(a, ref) - 7, 3);
                    addDay(monday - 7 + a, 2);
                    break;
                case Phrase.NAME_AFTER_NEXT:
                    addDay(Calendar.named(a, ref + 1) + 7, 3);
                    addDay(monday + 14 + a, 2);
                    break;
                default:
                    break;
            }
        }

        private void addByMonths(int step, int a, int b, int c, int ref) {
            switch (step) {
                case Phrase.MONTH_NAME:
                    addMonthName(a, ref);
                    break;
                case Phrase.MONTH_AND_N:
                    addMonthAndN(a, b, ref);
                    break;
                case Phrase.WHOLE_DATE:
                    addDay(Calendar.dayOf(c, a + 1, b), 3);
                    break;
                case Phrase.WHOLE_YEAR:
                    span.addMonths((a - FIRST_YEAR) * 12, 12, YEAR, 3);
                    break;
                default:
                    break;
            }
        }

        private void addDay(int day, int weight) {
            span.add(day, day, DAY, weight);
        }

        private void addUnitAt(int unit, int behind, int ref) {
            span.addUnit(unit, ref, behind, 3);
            if (unit == WEEK && behind > 0) {
                span.add(ref + 1, ref + 7, WEEK, 1);
            } else if (unit == WEEK && behind < 0) {
                span.add(ref - 7, ref - 1, WEEK, 1);
            }
        }

        private void addMoved(int unit, int n, int ref) {
            int day = Calendar.move(ref, unit, n);
            if (day == OUT) {
                return;
            }
            addDay(day, 3);
            if (unit != DAY) {
                span.addUnit(unit, day, 0, 1);
            }
        }

        private void addMonthName(int name, int ref) {
            int month = Calendar.yearOf(ref) * 12 + name;
            int isOver = Calendar.monthStart(month + 1) <= ref ? 1 : 0;
            int hasBegun = Calendar.monthStart(month) < ref ? 1 : 0;
            span.addMonths(month + 12 * isOver, 1, MONTH, 3);
            span.addMonths(month - 12 * (1 - hasBegun), 1, MONTH, 2);
        }

        private void addMonthAndN(int name, int n, int ref) {
            int next = OUT;
            int last = OUT;
            for (int month = name; month < MONTHS; month += 12) {
                int day = Calendar.dayInMonth(month, n);
                if (day == OUT) {
                    continue;
                }
                if (day < ref) {
                    last = day;
                } else if (next == OUT) {
                    next = day;
                }
            }
            addDay(next, 3);
            addDay(last, 2);
        }

        /** Makes of each READING of the SPAN what stands ahead of that asks for, another one or none. */
        private void change(int step, int a, int b) {
            spare.clear();
            for (int i = 0; i < span.size; i++) {
                int from = span.value(i, FROM);
                int to = span.value(i, TO);
                int weight = span.value(i, WEIGHT);
                if (step == Phrase.N_AFTER || step == Phrase.N_BEFORE) {
                    int day = step == Phrase.N_AFTER ? Calendar.move(to, a, b) : Calendar.move(from, a, -b);
                    spare.add(day, day, DAY, weight);
                } else if (step == Phrase.FIRST_OF || step == Phrase.LAST_OF) {
                    int day = step == Phrase.FIRST_OF ? Calendar.named(a, from) : Calendar.named(a, to + 1) - 7;
                    if (day >= from && day <= to) {
                        spare.add(day, day, DAY, weight);
                    }
                } else {
                    addThird(step, i);
                }
            }
            Readings changed = spare;
            spare = span;
            span = changed;
        }

        private void addThird(int step, int i) {
            int from = span.value(i, FROM);
            int to = span.value(i, TO);
            int third = (to - from + 1) / 3;
            if (third == 0) {
                return;
            }
            if (step == Phrase.EARLY_OF) {
                to = from + third - 1;
            } else if (step == Phrase.LATE_OF) {
                from = to - third + 1;
            } else {
                from += third;
                to -= third;
            }
            spare.add(from, to, span.value(i, GRAIN), span.value(i, WEIGHT));
        }

        private void close(int step, int mostWeight) {
            if (step == Phrase.HOLD) {
                Readings first = span;
                span = held;
                held = first;
            } else if (step == Phrase.JOIN) {
                join(mostWeight);
            } else {
                for (int i = 0; i < span.size; i++) {
                    int weight = Math.min(span.value(i, WEIGHT), mostWeight);
                    found.merge(span.value(i, FROM), span.value(i, TO), span.value(i, GRAIN), weight);
                }
            }
        }

        private void join(int mostWeight) {
            for (int i = 0; i < held.size; i++) {
                for (int k = 0; k < span.size; k++) {
                    int from = held.value(i, FROM);
                    int to = span.value(k, TO);
                    if (from <= to) {
                        int grain = Math.max(held.value(i, GRAIN), span.value(k, GRAIN));
                        int weight = Math.min(held.value(i, WEIGHT), span.value(k, WEIGHT));
                        found.merge(from, to, grain, Math.min(weight, mostWeight));
                    }
                }
            }
        }
    }

    /** All that the first term tells of, as one row of numbers, so that it is kept and brought back as a whole. */
    private static final class Story {
        private static final int REF_CELL = 0;
        private static final int TOLD_CELL = 1;
        private static final int ORDERS_CELL = 2;
        private static final int FIRST_ORDER = 3;
        // with() looks at one ORDER more than there may be.
        private static final int ORDER_CELLS = MOST_ORDERS + 1;
        private static final int FIRST_SIZE = FIRST_ORDER + ORDER_CELLS;
        private static final int FIRST_IN = FIRST_SIZE + EVENTS;
        private static final int FIRST_READING = FIRST_IN + EVENTS;
        private static final int EVENT_CELLS = MOST_READINGS * PARTS;
        static final int CELLS = FIRST_READING + EVENTS * EVENT_CELLS;

        private static final int FIRST_REF = 3000;
        private static final int NEAR = 7;

        private final int[] cells = new int[CELLS];

        Story() {
            cells[REF_CELL] = FIRST_REF;
        }

        void save(int[] to) {
            if (to != null && to.length == CELLS) {
                System.arraycopy(cells, 0, to, 0, CELLS);
            }
        }

        void load(int[] from) {
            if (from != null && from.length == CELLS) {
                System.arraycopy(from, 0, cells, 0, CELLS);
            }
        }

        int refDay() {
            return cells[REF_CELL];
        }

        int toldBits() {
            return cells[TOLD_CELL];
        }

        boolean isTold(int event) {
            return event >= 0 && event < EVENTS && (cells[TOLD_CELL] >> event & 1) == 1;
        }

        /** 0 of an EVENT that is not told, as are the bits of READINGS that are in. */
        int size(int event) {
            return event >= 0 && event < EVENTS ? cells[FIRST_SIZE + event] : 0;
        }

        int inBits(int event) {
            return event >= 0 && event < EVENTS ? cells[FIRST_IN + event] : 0;
        }

        boolean has(int event, int i) {
            return i >= 0 && i < size(event);
        }

        boolean isIn(int event, int i) {
            return has(event, i) && (inBits(event) >> i & 1) == 1;
        }

        int value(int event, int i, int what) {
            if (event < 0 || event >= EVENTS || i < 0 || i >= MOST_READINGS || what < FROM || what > WEIGHT) {
                return 0;
            }
            return cells[FIRST_READING + event * EVENT_CELLS + i * PARTS + what];
        }

        int readingsOfAll() {
            int all = 0;
            for (int event = 0; event < EVENTS; event++) {
                all += size(event);
            }
            return all;
        }

        int inOfAll() {
            int all = 0;
            for (int event = 0; event < EVENTS; event++) {
                all += Integer.bitCount(inBits(event));
            }
            return all;
        }

        int choicesWithoutOrders() {
            int product = toldBits() == 0 ? 0 : 1;
            for (int event = 0; event < EVENTS; event++) {
                if (isTold(event)) {
                    product *= Integer.bitCount(inBits(event));
                }
            }
            return product;
        }

        /** Those of some READINGS (bits) that have a DAY of a span. */
        int bitsThatMeet(int event, int bits, int from, int to) {
            int meeting = 0;
            for (int i = 0; i < MOST_READINGS; i++) {
                if (hasBit(bits, i) && value(event, i, FROM) <= to && value(event, i, TO) >= from) {
                    meeting |= 1 << i;
                }
            }
            return meeting;
        }

        int orders() {
            return cells[ORDERS_CELL];
        }

        boolean hasOrder(int i) {
            return i >= 0 && i < orders();
        }

        /** Of an ORDER: 100 times its kind, 10 times x, and y. */
        int code(int i) {
            return i >= 0 && i < ORDER_CELLS ? cells[FIRST_ORDER + i] : 0;
        }

        boolean bothAreTold(int code) {
            return isTold(code / 10 % 10) && isTold(code % 10);
        }

        /** READINGS of y (bits) by which an ORDER holds with a READING of x. */
        int bitsThatHold(int code, int i) {
            int x = code / 10 % 10;
            int y = code % 10;
            int from = value(x, i, FROM);
            int to = value(x, i, TO);
            int bits = 0;
            for (int k = 0; k < MOST_READINGS; k++) {
                if (holds(code / 100, from, to, value(y, k, FROM), value(y, k, TO))) {
                    bits |= 1 << k;
                }
            }
            return bits;
        }

        private static boolean holds(int kind, int from, int to, int otherFrom, int otherTo) {
            switch (kind) {
                case 0: return to < otherFrom;
                case 1: return from <= otherTo && otherFrom <= to;
                case 2: return otherFrom <= from && to <= otherTo;
                case 3: return from == otherFrom;
                // With a DAY together neither way is above 0, and of two apart one way is below 0.
                default: return otherFrom - to <= NEAR && from - otherTo <= NEAR;
            }
        }

        int pairsThatHold(int order) {
            int code = code(order);
            int pairs = 0;
            for (int i = 0; i < MOST_READINGS; i++) {
                if (isIn(code / 10 % 10, i)) {
                    pairs += Integer.bitCount(bitsThatHold(code, i) & inBits(code % 10));
                }
            }
            return pairs;
        }

        void tell(int event, Readings found) {
            if (event < 0 || event >= EVENTS || found == null) {
                return;
            }
            cells[TOLD_CELL] |= 1 << event;
            cells[FIRST_SIZE + event] = found.size;
            cells[FIRST_IN + event] = (1 << found.size) - 1;
            System.arraycopy(found.cells, 0, cells, FIRST_READING + event * EVENT_CELLS, EVENT_CELLS);
        }

        int drop(int event) {
            if (event < 0 || event >= EVENTS) {
                return NONE;
            }
            if (!isTold(event)) {
                return IT_IS_SO;
            }
            cells[TOLD_CELL] &= ~(1 << event);
            cells[FIRST_SIZE + event] = 0;
            cells[FIRST_IN + event] = 0;
            return Integer.bitCount(cells[TOLD_CELL]);
        }

        int changeRef(int day) {
            if (!isDay(day)) {
                return NONE;
            }
            int was = cells[REF_CELL];
            if (was == day) {
                return IT_IS_SO;
            }
            cells[REF_CELL] = day;
            return was;
        }

        int ruleOut(int event, int i, boolean is) {
            if (event < 0 || event >= EVENTS || !has(event, i)) {
                return NONE;
            }
            if (isIn(event, i) != is) {
                return IT_IS_SO;
            }
            cells[FIRST_IN + event] ^= 1 << i;
            return Integer.bitCount(cells[FIRST_IN + event]);
        }

        int keepOnlyLeft(Solver solver) {
            if (solver == null || solver.total == 0) {
                return NO_CHOICE;
            }
            int out = 0;
            for (int event = 0; event < EVENTS; event++) {
                int left = solver.leftBits(event);
                out += Integer.bitCount(cells[FIRST_IN + event] & ~left);
                cells[FIRST_IN + event] &= left;
            }
            return out == 0 ? IT_IS_SO : out;
        }

        int addOrder(int kind, int x, int y, int most) {
            if (kind < 0 || kind >= KINDS || !isEvent(x) || !isEvent(y) || x == y) {
                return NONE;
            }
            int code = 100 * kind + 10 * x + y;
            int number = orders();
            for (int i = 0; i < number; i++) {
                if (code(i) == code) {
                    return IT_IS_SO;
                }
            }
            if (number < 0 || number >= most || number >= ORDER_CELLS) {
                return TOO_MANY;
            }
            cells[FIRST_ORDER + number] = code;
            cells[ORDERS_CELL] = number + 1;
            return number;
        }

        int removeOrder(int i) {
            if (!hasOrder(i)) {
                return NONE;
            }
            for (int k = i; k + 1 < ORDER_CELLS; k++) {
                cells[FIRST_ORDER + k] = cells[FIRST_ORDER + k + 1];
            }
            cells[ORDERS_CELL]--;
            return cells[ORDERS_CELL];
        }
    }

    /** The latest stories that undo() can bring back, in a ring. */
    private static final class Past {
        private static final int MOST = 8;

        private final int[][] stories = new int[MOST][Story.CELLS];
        private int next = 0;
        private int size = 0;

        void push(int[] cells) {
            if (cells == null || cells.length != Story.CELLS) {
                return;
            }
            System.arraycopy(cells, 0, stories[next & MOST - 1], 0, Story.CELLS);
            next = next + 1 & MOST - 1;
            size = Math.min(size + 1, MOST);
        }

        void pop(int[] cells) {
            if (size == 0 || cells == null || cells.length != Story.CELLS) {
                return;
            }
            next = next - 1 & MOST - 1;
            System.arraycopy(stories[next & MOST - 1], 0, cells, 0, Story.CELLS);
            size--;
        }

        void clear() {
            size = 0;
        }
    }

    /** The CHOICES of a story: how many, with which READINGS, and BEST. */
    private static final class Solver {
        private static final int PLACES = EVENTS * MOST_READINGS;

        private final int[] events = new int[EVENTS];
        private int size = 0;
        private final int[] weights = new int[PLACES];
        // Of each READING: those of each EVENT (bits) that may stand beside it.
        private final int[][] beside = new int[PLACES][EVENTS];
        // At each depth: READINGS of each EVENT (bits) that those chosen so far leave.
        private final int[][] open = new int[EVENTS][EVENTS];
        private final int[] chosen = new int[EVENTS];
        private final int[] bestChosen = new int[EVENTS];
        private final int[] choicesWith = new int[PLACES];
        private int total = 0;
        private int worth = 0;

        void solve(Story story) {
            size = 0;
            worth = 0;
            for (int event = 0; event < EVENTS; event++) {
                layOut(story, event);
                if (story.isTold(event)) {
                    events[size] = event;
                    size++;
                }
            }
            for (int order = 0; order < story.orders(); order++) {
                heed(story, story.code(order));
            }
            total = search(0, 0);
        }

        private void layOut(Story story, int event) {
            bestChosen[event] = NONE;
            chosen[event] = NONE;
            open[0][event] = story.inBits(event);
            for (int i = 0; i < MOST_READINGS; i++) {
                int place = event * MOST_READINGS + i;
                weights[place] = story.value(event, i, WEIGHT);
                choicesWith[place] = 0;
                for (int k = 0; k < EVENTS; k++) {
                    beside[place][k] = ALL_READINGS;
                }
            }
        }

        private void heed(Story story, int code) {
            if (!story.bothAreTold(code)) {
                return;
            }
            int x = code / 10 % 10;
            int y = code % 10;
            for (int i = 0; i < MOST_READINGS; i++) {
                int bits = story.bitsThatHold(code, i);
                beside[x * MOST_READINGS + i][y] &= bits;
                for (int k = 0; k < MOST_READINGS; k++) {
                    if (!hasBit(bits, k)) {
                        beside[y * MOST_READINGS + k][x] &= ~(1 << i);
                    }
                }
            }
        }

        private int search(int depth, int sum) {
            if (depth < 0 || depth >= size || depth >= EVENTS) {
                return 0;
            }
            int event = events[depth];
            int bits = open[depth][event];
            int found = 0;
            for (int i = 0; i < MOST_READINGS; i++) {
                if ((bits >> i & 1) == 0) {
                    continue;
                }
                int place = event * MOST_READINGS + i;
                chosen[event] = i;
                int here = 0;
                if (depth + 1 == size) {
                    here = arrive(sum + weights[place]);
                } else if (leavesSome(depth, place)) {
                    here = search(depth + 1, sum + weights[place]);
                }
                choicesWith[place] += here;
                found += here;
            }
            return found;
        }

        private boolean leavesSome(int depth, int place) {
            for (int k = depth + 1; k < size; k++) {
                int event = events[k];
                int left = open[depth][event] & beside[place][event];
                if (left == 0) {
                    return false;
                }
                open[depth + 1][event] = left;
            }
            return true;
        }

        /** CHOICES come in their order, so the first one of a WORTH stays. */
        private int arrive(int sum) {
            if (sum > worth) {
                worth = sum;
                System.arraycopy(chosen, 0, bestChosen, 0, EVENTS);
            }
            return 1;
        }

        int bestReading(int event) {
            return event >= 0 && event < EVENTS ? bestChosen[event] : NONE;
        }

        int leftBits(int event) {
            if (event < 0 || event >= EVENTS) {
                return 0;
            }
            int bits = 0;
            for (int i = 0; i < MOST_READINGS; i++) {
                if (choicesWith[event * MOST_READINGS + i] > 0) {
                    bits |= 1 << i;
                }
            }
            return bits;
        }

        /** Whether more than one READING is LEFT. */
        boolean hasOpenQuestion(int event) {
            return Integer.bitCount(leftBits(event)) > 1;
        }

        int leftOfAll() {
            int all = 0;
            for (int place = 0; place < PLACES; place++) {
                all += choicesWith[place] > 0 ? 1 : 0;
            }
            return all;
        }

        int mostWithOneReading(int event) {
            if (event < 0 || event >= EVENTS) {
                return 0;
            }
            int most = 0;
            for (int i = 0; i < MOST_READINGS; i++) {
                most = Math.max(most, choicesWith[event * MOST_READINGS + i]);
            }
            return most;
        }
    }

    /** The fewest ORDERS without which a story has a CHOICE. */
    private static final class Culprits {
        private static final int PLACES = EVENTS * MOST_READINGS;

        // Of two READINGS of two EVENTS, the first EVENT first: ORDERS (bits) that they break.
        private final int[][] breaks = new int[PLACES][PLACES];
        private final int[] chosen = new int[EVENTS];
        private int fewest = 0;
        private int ways = 0;

        void find(Story story) {
            for (int place = 0; place < PLACES; place++) {
                for (int k = 0; k < PLACES; k++) {
                    breaks[place][k] = 0;
                }
            }
            for (int order = 0; order < story.orders(); order++) {
                heed(story, order);
            }
            ways = 0;
            for (int many = 1; many <= MOST_ORDERS && ways == 0; many++) {
                // The greatest of the sets of so many: those found are not above it.
                fewest = (1 << many) - 1 << MOST_ORDERS - many;
                search(story, 0, 0);
            }
        }

        private void heed(Story story, int order) {
            int code = story.code(order);
            if (!story.bothAreTold(code)) {
                return;
            }
            int x = code / 10 % 10 * MOST_READINGS;
            int y = code % 10 * MOST_READINGS;
            for (int i = 0; i < MOST_READINGS; i++) {
                int bits = story.bitsThatHold(code, i);
                for (int k = 0; k < MOST_READINGS; k++) {
                    if (!hasBit(bits, k)) {
                        breaks[Math.min(x + i, y + k)][Math.max(x + i, y + k)] |= 1 << order;
                    }
                }
            }
        }

        private void search(Story story, int event, int broken) {
            if (isWorse(broken)) {
                return;
            }
            if (event < 0 || event >= EVENTS) {
                arrive(broken);
                return;
            }
            chosen[event] = event * MOST_READINGS;
            if (!story.isTold(event)) {
                search(story, event + 1, broken);
                return;
            }
            for (int i = 0; i < MOST_READINGS; i++) {
                if (story.isIn(event, i)) {
                    chosen[event] = event * MOST_READINGS + i;
                    search(story, event + 1, broken | brokenWithThoseAhead(event));
                }
            }
        }

        /** What stands in the place of an EVENT that is not told breaks nothing. */
        private int brokenWithThoseAhead(int event) {
            int broken = 0;
            for (int ahead = 0; ahead < event; ahead++) {
                broken |= breaks[chosen[ahead]][chosen[event]];
            }
            return broken;
        }

        private boolean isWorse(int broken) {
            int many = Integer.bitCount(broken);
            int least = Integer.bitCount(fewest);
            return many > least || many == least && broken > fewest;
        }

        private void arrive(int broken) {
            ways = broken == fewest ? ways + 1 : 1;
            fewest = broken;
        }
    }
}
