import java.time.LocalDate;
import java.util.ArrayList;
import java.util.List;

/** Promises 5 to 8 on every DAY there is: the calls that go by the calendar, held against the Model. */
public final class EachDayTest {
    private static final int[] STEPS = {1, -1, 12, -12, 13, -48, 330, -330};

    public static void main(String[] args) {
        Due dates = new Due("promises 6 to 8, each DAY");
        for (int day = 0; day <= 9999; day++) {
            dates.x = new ProseDates();
            dateOf(dates, day);
            moves(dates, day);
        }
        Due phrases = new Due("promise 5, each DAY");
        for (String phrase : phrases()) {
            for (int day = 0; day <= 9999; day++) {
                means(phrases, phrase, day);
            }
        }
        Due.finish();
    }

    private static void dateOf(Due d, int day) {
        LocalDate date = Model.date(day);
        int month = date.getMonthValue();
        int number = date.getDayOfMonth();
        d.is("date(" + day + ")", d.x.date(day), date.getYear());
        d.is("row(0), the MONTH of " + day, d.x.row(0), month);
        d.is("row(1), the number of " + day, d.x.row(1), number);
        d.is("row(2), the name of " + day, d.x.row(2), date.getDayOfWeek().getValue() - 1);
        d.is("day() of " + date, d.x.day(date.getYear(), month, number), day);
    }

    private static void moves(Due d, int day) {
        for (int unit = 0; unit <= 3; unit++) {
            for (int n : STEPS) {
                int to = Model.move(day, unit, n);
                d.is("moved(" + day + ", " + unit + ", " + n + ")", d.x.moved(day, unit, n), Model.isDay(to) ? to : -2);
            }
        }
    }

    private static void means(Due d, String phrase, int day) {
        Model m = new Model();
        m.text.append(phrase);
        d.x = new ProseDates();
        int want = m.means(day);
        d.is("means(" + day + ") '" + phrase + "'", d.text(phrase).x.means(day), want);
        for (int i = 0; i < m.row.size() && want > 0; i++) {
            d.is("row(" + i + ") of '" + phrase + "' on " + day, d.x.row(i), m.row.get(i));
        }
    }

    /** One of each kind, those first that go by nothing but the DAY of reference. */
    private static List<String> phrases() {
        List<String> all = new ArrayList<>(List.of("feb 29", "dec 31", "in 1 month", "13 month ago", "in 1 year",
            "2 week ago", "early last month", "first sun of this month", "last mon of feb", "1 month after next week",
            "1 year before this month", "last week to next month"));
        for (String unit : Model.UNITS) {
            all.addAll(List.of("this " + unit, "next " + unit, "last " + unit));
        }
        for (String name : List.of("mon", "thu", "sun")) {
            all.addAll(List.of(name, "this " + name, "next " + name, "last " + name, name + " after next"));
        }
        all.addAll(List.of("jan", "feb", "may", "dec"));
        return all;
    }
}
