import java.util.Arrays;

/** Promises 17 (dates), 18 (next), 19 (wedding). */
public final class DatesTest {
    private static final int LAST = 146096;

    public static void main(String[] args) {
        datesAreDaysThatMay();
        datesOverLeapYears();
        datesRefused();
        nexts();
        nextIsTheFirstThatMay();
        nextRefused();
        weddings();
        weddingEnds();
        weddingRefused();
        Check.end();
    }

    private static AgesTens some(int law) {
        AgesTens x = new AgesTens();
        x.person(x.day(1960, 2, 29));
        x.person(x.day(1960, 3, 1));
        x.person(x.day(1975, 12, 31));
        x.person(x.day(1999, 1, 1));
        x.gate(law, 3);
        return x;
    }

    private static void datesAreDaysThatMay() {
        for (int law = 0; law < 5; law++) {
            AgesTens x = some(law);
            x.pair(0, 3, 1);
            for (int year = 1958; year < 2012; year++) {
                for (int company = 1; company < 16; company++) {
                    int days = 0;
                    int end = x.day(year, 12, 31);
                    for (int d = x.day(year, 1, 1); d <= end; d++) {
                        days += x.why(company, 0, d) == 0 ? 1 : 0;
                    }
                    Check.due("dates " + law + " " + company + " " + year, x.dates(company, 0, year), days);
                }
            }
        }
    }

    private static void datesOverLeapYears() {
        AgesTens x = new AgesTens();
        x.person(x.day(1896, 2, 29));
        x.person(x.day(1896, 3, 1));
        x.person(0);
        x.gate(3, 8);
        Check.looks(x, "1900: both on the first of March", y -> y.dates(3, 0, 1900), 0);
        Check.looks(x, "1904: a day apart", y -> y.dates(3, 0, 1904), 1);
        Check.looks(x, "the year of birth", y -> y.dates(1, 0, 1896), 366 - 59);
        Check.looks(x, "the first year", y -> y.dates(4, 0, 1800), 365);
        Check.looks(x, "the last year", y -> y.dates(4, 0, 2199), 365);
        Check.looks(x, "a leap year", y -> y.dates(4, 0, 2000), 366);
    }

    private static void datesRefused() {
        AgesTens x = some(0);
        int[][] wrong = {{0, 0, 1900}, {16, 0, 1900}, {-1, 0, 1900}, {1, 1, 1900}, {1, -1, 1900}, {1, 0, 1799},
            {1, 0, 2200}, {1, 0, Integer.MIN_VALUE}, {1, 0, Integer.MAX_VALUE}, {Integer.MIN_VALUE, 0, 1900},
            {Integer.MAX_VALUE, 0, 1900}, {1, Integer.MIN_VALUE, 1900}, {1, Integer.MAX_VALUE, 1900}};
        for (int[] w : wrong) {
            Check.bad(x, "dates " + Arrays.toString(w), y -> y.dates(w[0], w[1], w[2]), -2);
        }
    }

    private static void nexts() {
        AgesTens x = some(0);
        Check.looks(x, "the day of birth", y -> y.next(1, 0, 0), x.day(1960, 2, 29));
        Check.looks(x, "the day itself", y -> y.next(1, 0, y.day(1970, 3, 1)), x.day(1970, 3, 1));
        Check.looks(x, "over the years", y -> y.next(1, 0, y.day(1971, 3, 1)), x.day(1980, 2, 29));
        Check.looks(x, "not on the 28th", y -> y.next(1, 0, y.day(1970, 2, 28)), x.day(1970, 3, 1));
        Check.looks(x, "the last of a year", y -> y.next(1, 0, y.day(1971, 2, 28)), x.day(1971, 2, 28));
        Check.looks(x, "more than seats", y -> y.next(15, 0, 0), -1);
        Check.looks(x, "none to the last", y -> y.next(1, 0, y.day(2191, 3, 1)), -1);
        AgesTens z = new AgesTens();
        z.person(LAST);
        z.gate(0, 1);
        Check.looks(z, "the last day", y -> y.next(1, 0, 0), LAST);
        Check.looks(z, "from the last day", y -> y.next(1, 0, LAST), LAST);
        AgesTens w = some(3);
        w.pair(0, 1, 0);
        Check.looks(w, "with lacks for ever", y -> y.next(1, 0, 0), -1);
        w.pair(1, 2, 1);
        Check.looks(w, "apart for ever", y -> y.next(7, 0, 0), -1);
        Check.looks(w, "a day of a leap year", y -> y.next(3, 0, y.day(1997, 3, 1)), w.day(2000, 2, 29));
        Check.looks(w, "over 2100, that is none", y -> y.next(3, 0, y.day(2096, 3, 1)), w.day(2104, 2, 29));
    }

    private static void nextIsTheFirstThatMay() {
        for (int law = 0; law < 5; law++) {
            AgesTens x = some(law);
            for (int company = 1; company < 15; company++) {
                for (int from = 57000; from < 75000; from += 1777) {
                    int due = from;
                    while (due <= LAST && x.why(company, 0, due) != 0) {
                        due++;
                    }
                    String call = "next " + law + " " + company + " " + from;
                    Check.due(call, x.next(company, 0, from), due > LAST ? -1 : due);
                }
            }
        }
    }

    private static void nextRefused() {
        AgesTens x = some(0);
        int[][] wrong = {{0, 0, 0}, {16, 0, 0}, {-1, 0, 0}, {1, 1, 0}, {1, -1, 0}, {1, 0, -1}, {1, 0, LAST + 1},
            {1, 0, Integer.MIN_VALUE}, {1, 0, Integer.MAX_VALUE}, {Integer.MIN_VALUE, 0, 0},
            {Integer.MAX_VALUE, 0, 0}, {1, Integer.MIN_VALUE, 0}, {1, Integer.MAX_VALUE, 0}};
        for (int[] w : wrong) {
            Check.bad(x, "next " + Arrays.toString(w), y -> y.next(w[0], w[1], w[2]), -2);
        }
    }

    private static void weddings() {
        for (int law = 0; law < 5; law++) {
            AgesTens x = some(law);
            for (int one = 0; one < 16; one++) {
                for (int other = 0; other < 16; other++) {
                    if ((one & other) == 0) {
                        int from = 71000 + 97 * one + 13 * other;
                        String call = "wedding " + law + " " + one + " " + other + " " + from;
                        Check.due(call, x.wedding(one, other, 0, from), firstWedding(x, one, other, from));
                    }
                }
            }
        }
    }

    private static int firstWedding(AgesTens x, int one, int other, int from) {
        for (int d = from; d <= from + 1500 && d <= LAST; d++) {
            if (x.over(one, 0, d, 0) == 0 && x.over(other, 0, d, 0) == 0) {
                return d;
            }
        }
        return -1;
    }

    private static void weddingEnds() {
        AgesTens x = new AgesTens();
        x.person(10000);
        x.person(11000);
        x.person(LAST);
        x.gate(3, 1);
        Check.looks(x, "1500 behind", y -> y.wedding(1, 2, 0, 9500), 11000);
        Check.looks(x, "1501 behind", y -> y.wedding(1, 2, 0, 9499), -1);
        Check.looks(x, "1500 behind, the other way", y -> y.wedding(2, 1, 0, 9500), 11000);
        Check.looks(x, "the day itself", y -> y.wedding(2, 1, 0, 11000), 11000);
        Check.looks(x, "nobody", y -> y.wedding(0, 0, 0, 7), 7);
        Check.looks(x, "nobody and one", y -> y.wedding(0, 2, 0, 10000), 11000);
        Check.looks(x, "the last day", y -> y.wedding(4, 1, 0, LAST - 10), LAST);
        Check.looks(x, "from the last day", y -> y.wedding(4, 3, 0, LAST), LAST);
        AgesTens z = new AgesTens();
        z.person(LAST - 5000);
        z.gate(1, 8);
        Check.looks(z, "none to the last day", y -> y.wedding(1, 0, 0, LAST - 1000), -1);
        AgesTens eight = new AgesTens();
        for (int p = 0; p < 8; p++) {
            eight.person(100 * p);
        }
        eight.gate(3, 1);
        Check.looks(eight, "eight companies of one", y -> y.wedding(255, 0, 0, 0), 700);
        Check.looks(eight, "five and three", y -> y.wedding(31, 224, 0, 0), 700);
        AgesTens none = new AgesTens();
        none.gate(0, 1);
        Check.looks(none, "nobody there is", y -> y.wedding(0, 0, 0, LAST), LAST);
    }

    private static void weddingRefused() {
        AgesTens x = some(0);
        int[][] wrong = {{1, 1, 0, 0}, {3, 6, 0, 0}, {16, 0, 0, 0}, {0, 16, 0, 0}, {-1, 0, 0, 0}, {0, -1, 0, 0},
            {1, 2, 1, 0}, {1, 2, -1, 0}, {1, 2, 0, -1}, {1, 2, 0, LAST + 1}, {1, 2, 0, Integer.MIN_VALUE},
            {1, 2, 0, Integer.MAX_VALUE}, {Integer.MIN_VALUE, 0, 0, 0}, {0, Integer.MAX_VALUE, 0, 0},
            {1, 2, Integer.MIN_VALUE, 0}, {1, 2, Integer.MAX_VALUE, 0}};
        for (int[] w : wrong) {
            Check.bad(x, "wedding " + Arrays.toString(w), y -> y.wedding(w[0], w[1], w[2], w[3]), -2);
        }
    }
}
