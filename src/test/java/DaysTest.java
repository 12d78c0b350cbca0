import java.time.LocalDate;
import java.time.temporal.ChronoUnit;

/** Promises 1 (a new object), 2 (day), 3 (date), 7 (age). */
public final class DaysTest {
    private static final LocalDate FIRST = LocalDate.of(1800, 1, 1);
    private static final int DAYS = 146097;

    public static void main(String[] args) {
        aNewObject();
        everyDayBothWays();
        datesThatAreNone();
        ages();
        agesOfAll();
        agesRefused();
        Check.end();
    }

    private static void aNewObject() {
        AgesTens x = new AgesTens();
        for (int what = 0; what < 4; what++) {
            Check.due("new count " + what, x.count(what), 0);
        }
        for (int what = 0; what < 3; what++) {
            Check.due("new status " + what, x.status(what), 0);
        }
        Check.due("new part(0)", x.part(0), 0);
        Check.due("new part(1)", x.part(1), 1);
        Check.due("new spare", x.spare(), 0);
        Check.due("new tens(0)", x.tens(0), 1);
        Check.due("new liars", x.liars(0), 0);
        Check.due("new fits", x.fits(-1), 100000);
        Check.due("new forget", x.forget(), 0);
        Check.due("new clear", x.clear(), 0);
        Check.due("new from(0)", x.from(0), -3);
        Check.due("new from(1)", x.from(1), -3);
        for (int r = 0; r < 10; r++) {
            Check.due("new crowd " + r, x.crowd(r, 0), 0);
        }
        long h = 641;
        for (int i = 0; i < 4 + 10 + 1; i++) {
            h *= 31;
        }
        Check.due("new digest", new AgesTens().digest(), 31 * (31 * h + 0) + 1);
        Check.due("new read", new AgesTens().read(), 0);
    }

    private static void everyDayBothWays() {
        AgesTens x = new AgesTens();
        for (int d = 0; d < DAYS; d++) {
            LocalDate date = FIRST.plusDays(d);
            Check.due("day " + date, x.day(date.getYear(), date.getMonthValue(), date.getDayOfMonth()), d);
            Check.due("date " + d + " 0", x.date(d, 0), date.getYear());
            Check.due("date " + d + " 1", x.date(d, 1), date.getMonthValue());
            Check.due("date " + d + " 2", x.date(d, 2), date.getDayOfMonth());
        }
    }

    private static void datesThatAreNone() {
        AgesTens x = new AgesTens();
        int[][] none = {{1799, 12, 31}, {2200, 1, 1}, {1900, 2, 29}, {2100, 2, 29}, {1800, 2, 29}, {2001, 2, 29},
            {2000, 2, 30}, {2000, 4, 31}, {2000, 6, 31}, {2000, 9, 31}, {2000, 11, 31}, {2000, 1, 32},
            {2000, 12, 32}, {2000, 0, 1}, {2000, 13, 1}, {2000, 1, 0}, {2000, -1, 1}, {2000, 1, -1},
            {Integer.MIN_VALUE, 1, 1}, {Integer.MAX_VALUE, 1, 1}, {2000, Integer.MIN_VALUE, 1},
            {2000, Integer.MAX_VALUE, 1}, {2000, 1, Integer.MIN_VALUE}, {2000, 1, Integer.MAX_VALUE}};
        for (int[] n : none) {
            Check.bad(x, "day " + n[0] + " " + n[1] + " " + n[2], y -> y.day(n[0], n[1], n[2]), -2);
        }
        int[][] wrong = {{-1, 0}, {DAYS, 0}, {0, -1}, {0, 3}, {Integer.MIN_VALUE, 1}, {Integer.MAX_VALUE, 2},
            {5, Integer.MIN_VALUE}, {5, Integer.MAX_VALUE}};
        for (int[] w : wrong) {
            Check.bad(x, "date " + w[0] + " " + w[1], y -> y.date(w[0], w[1]), -2);
        }
        Check.looks(x, "day that is one", y -> y.day(2000, 2, 29), 73107);
        Check.looks(x, "date that is one", y -> y.date(73107, 2), 29);
    }

    private static void ages() {
        AgesTens x = new AgesTens();
        int leap = x.person(x.day(1896, 2, 29));
        int plain = x.person(x.day(1895, 3, 1));
        Check.due("not born", x.age(leap, x.day(1896, 2, 28)), -1);
        Check.due("on the day", x.age(leap, x.day(1896, 2, 29)), 0);
        Check.due("28th, no leap year", x.age(leap, x.day(1897, 2, 28)), 0);
        Check.due("first of March", x.age(leap, x.day(1897, 3, 1)), 1);
        Check.due("1900 is none, 28th", x.age(leap, x.day(1900, 2, 28)), 3);
        Check.due("1900 is none, March", x.age(leap, x.day(1900, 3, 1)), 4);
        Check.due("1904 is one, 28th", x.age(leap, x.day(1904, 2, 28)), 7);
        Check.due("1904 is one, 29th", x.age(leap, x.day(1904, 2, 29)), 8);
        Check.due("March, ahead of it in a leap year", x.age(plain, x.day(1904, 2, 29)), 8);
        Check.due("March, in a leap year", x.age(plain, x.day(1904, 3, 1)), 9);
        Check.due("the last day", x.age(plain, 146096), 304);
        Check.looks(x, "age only looks", y -> y.age(leap, 0), -1);
    }

    private static void agesOfAll() {
        int[] born = {0, 58, 59, 146096, 36583, 73107, 73106, 73108};
        AgesTens x = new AgesTens();
        for (int b : born) {
            x.person(b);
        }
        for (int p = 0; p < born.length; p++) {
            LocalDate birth = FIRST.plusDays(born[p]);
            for (int d = p; d < DAYS; d += 7) {
                long due = d < born[p] ? -1 : ChronoUnit.YEARS.between(birth, FIRST.plusDays(d));
                Check.due("age " + birth + " on " + FIRST.plusDays(d), x.age(p, d), due);
            }
        }
        Check.due("age on the last day", x.age(0, 146096), 399);
    }

    private static void agesRefused() {
        AgesTens x = new AgesTens();
        Check.bad(x, "age without people", y -> y.age(0, 0), -2);
        x.person(100);
        int[][] wrong = {{-1, 0}, {1, 0}, {0, -1}, {0, DAYS}, {Integer.MIN_VALUE, 0}, {Integer.MAX_VALUE, 0},
            {0, Integer.MIN_VALUE}, {0, Integer.MAX_VALUE}};
        for (int[] w : wrong) {
            Check.bad(x, "age " + w[0] + " " + w[1], y -> y.age(w[0], w[1]), -2);
        }
    }
}
