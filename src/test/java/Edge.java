import java.io.IOException;
import java.nio.file.Files;
import java.nio.file.Path;
import java.time.LocalDate;
import java.util.Locale;
import java.util.Map;
import java.util.TreeMap;

/**
 * A test of one sentence of the document that names a boundary case. It is made with the place and the words of that
 * sentence; words that the document does not have at that place are a fault of the test itself.
 */
final class Edge extends Due {
    private static final Path DOCUMENT = Path.of("../shared/DOC.md");
    private static final int PROMISES = 35;
    private static final LocalDate DAY_0 = LocalDate.of(2000, 1, 1);
    private static final Map<String, String> PLACES = places();
    private static final Map<String, boolean[]> QUOTED = new TreeMap<>();
    private static int made = 0;

    Edge(String place, String sentence) {
        super(place + ", \"" + sentence + "\"");
        made++;
        String words = PLACES.getOrDefault(place, "");
        int at = words.indexOf(sentence);
        is("these words stand in the document", at >= 0, true);
        boolean[] quoted = QUOTED.computeIfAbsent(place, key -> new boolean[words.length()]);
        for (int i = Math.max(at, 0); at >= 0 && i < at + sentence.length(); i++) {
            quoted[i] = true;
        }
    }

    /** The document's text by places: "What it is", "Term 1", "Term 2", "Promise 1" .. "Promise 35". */
    private static Map<String, String> places() {
        Map<String, String> places = new TreeMap<>();
        String place = "";
        try {
            for (String line : Files.readAllLines(DOCUMENT)) {
                if (line.startsWith("## ")) {
                    place = line.substring(3).replaceAll(":.*", "");
                } else if (line.matches("[12]\\. .*")) {
                    place = "Term " + line.charAt(0);
                } else if (line.startsWith("Ahead of the calls")) {
                    place = "";
                }
                places.merge(place, line, (all, more) -> (all + " " + more).replaceAll("\\s+", " "));
            }
        } catch (IOException none) {
            System.out.println("the document can't be read: " + none);
        }
        return places;
    }

    static void eachPromiseHasOne() {
        Due d = new Due("tests of single sentences");
        for (int i = 1; i <= PROMISES; i++) {
            d.is("one for promise " + i, QUOTED.containsKey("Promise " + i), true);
        }
        System.out.println(made + " tests of single sentences");
    }

    /** What of the document no test has named: for who adds tests. */
    static void printRest() {
        for (String place : PLACES.keySet()) {
            String words = PLACES.get(place);
            boolean[] quoted = QUOTED.getOrDefault(place, new boolean[words.length()]);
            StringBuilder rest = new StringBuilder();
            for (int i = 0; i < words.length(); i++) {
                rest.append(quoted[i] ? '_' : words.charAt(i));
            }
            System.out.println(place + ": " + rest.toString().replaceAll("_+", " __ "));
        }
    }

    /** A DAY by the calendar of the Java library. */
    static int day(int year, int month, int number) {
        return (int) (LocalDate.of(year, month, number).toEpochDay() - DAY_0.toEpochDay());
    }

    /** A DAY as a phrase. */
    static String date(int day) {
        LocalDate date = DAY_0.plusDays(day);
        String month = date.getMonth().toString().substring(0, 3).toLowerCase(Locale.ROOT);
        return month + " " + date.getDayOfMonth() + " " + date.getYear();
    }

    static String span(int from, int to) {
        return from == to ? date(from) : date(from) + " to " + date(to);
    }

    void fresh() {
        x = new ProseDates();
    }

    /** At a DAY of reference the phrase is one, but has no READING. */
    void none(int day, String phrase) {
        meansNot(day, phrase, -200);
        tellsNot(day, phrase, -200);
    }

    /** The text is no PHRASE, what stands at p can't stand there. */
    void fault(String phrase, int p) {
        meansNot(3000, phrase, -1 - p);
        tellsNot(3000, phrase, -1 - p);
    }

    /** No fault: the phrase has READINGS at DAY 3000. */
    void fine(String phrase, int readings) {
        fresh();
        is("means(3000) '" + phrase + "'", text(phrase).x.means(3000), readings);
        tells(0, -1, phrase, readings);
    }

    private void tellsNot(int ref, String phrase, int want) {
        fresh();
        tells(3, -1, "today", 1);
        x.ref(ref);
        int undos = x.count(6);
        tells(3, -1, phrase, want);
        is("what was told stays", x.reading(3, 0, 0), 3000);
        is("nothing to undo", x.count(6), undos);
    }

    /** A new object in which each event has these phrases in turn, from event 0 on, by REF. */
    Edge told(String... phrases) {
        fresh();
        for (int event = 0; event < phrases.length; event++) {
            is("an event is told '" + phrases[event] + "'", text(phrases[event]).x.tells(event, -1) > 0, true);
        }
        return this;
    }

    /** "fri" is 3002 and 2995, "thu" 3001 and 2994, "sat" 3003 and 2996, with the WEIGHTS 3 and 1. */
    Edge three() {
        return told("fri", "thu", "sat");
    }

    /** Ten ORDERS, all of EVENTS 3, 4, 5, which three() does not tell. */
    void tenOrders() {
        for (int kind = 0; kind < 5; kind++) {
            is("order", x.order(kind, 3, 4), 2 * kind);
            is("order", x.order(kind, 4, 5), 2 * kind + 1);
        }
    }

    void counts(int what, int want) {
        is("count(" + what + ")", x.count(what), want);
    }
}
