import java.time.LocalDate;
import java.time.YearMonth;

/** Sentences of Terms about DAYS and AGE, and promises 2 (day), 3 (date), 7 (age). */
final class EdgesOfDays {
    private EdgesOfDays() { }

    static void run() {
        theFirstYear();
        theLastYear();
        theMonths();
        theDaysOfEachMonth();
        theLeapYears();
        theNumbers();
        dayOfNoSuchDate();
        dayHasNoOtherYear();
        dateOfADay();
        dateOfNoDay();
        dateOfNoWhat();
        ageByBirthdays();
        ageOfThoseOfThe29thOfFebruary();
        ageBeforeBirth();
        ageNone();
        ageOfNobody();
        ageOnNoDay();
        ageAtBothEnds();
    }

    private static void theFirstYear() {
        Edge.told(Edge.TERMS, "DAYS: of YEARS 1800 ..");
        Edge.takes(Edge::busy, "day 1800 1 1", x -> x.day(1800, 1, 1), 0);
        Edge.bad(Edge::busy, "day 1799 12 31", x -> x.day(1799, 12, 31));
        Edge.bad(Edge::busy, "day 0 1 1", x -> x.day(0, 1, 1));
        Edge.bad(Edge::busy, "day -1800 1 1", x -> x.day(-1800, 1, 1));
    }

    private static void theLastYear() {
        Edge.told(Edge.TERMS, "2199, MONTHS");
        Edge.takes(Edge::busy, "day 2199 12 31", x -> x.day(2199, 12, 31), Edge.LAST_DAY);
        Edge.bad(Edge::busy, "day 2200 1 1", x -> x.day(2200, 1, 1));
        Edge.bad(Edge::busy, "day 2199 12 32", x -> x.day(2199, 12, 32));
    }

    private static void theMonths() {
        Edge.told(Edge.TERMS, "MONTHS 1 .. 12, as the calendar has them");
        Edge.range(Edge::busy, "day 1999 n 5", (x, n) -> x.day(1999, n, 5), 1, Edge.day(1999, 1, 5), 12,
            Edge.day(1999, 12, 5), -2);
    }

    private static void theDaysOfEachMonth() {
        Edge.told(Edge.TERMS, "as the calendar has them");
        for (int year : new int[] {1800, 1999, 2000, 2199}) {
            for (int month = 1; month <= 12; month++) {
                int y = year;
                int m = month;
                int last = YearMonth.of(y, m).lengthOfMonth();
                Edge.range(Edge::empty, "day " + y + " " + m + " n", (x, n) -> x.day(y, m, n), 1,
                    Edge.day(y, m, 1), last, Edge.day(y, m, last), -2);
            }
        }
    }

    private static void theLeapYears() {
        Edge.told(Edge.TERMS, "a YEAR that 4 divides is a leap one, but not one that 100 divides, unless 400 does");
        for (int year = 1800; year <= 2199; year++) {
            boolean leap = year % 4 == 0 && (year % 100 != 0 || year == 2000);
            AgesTens x = new AgesTens();
            Edge.due("day " + year + " 2 28", x.day(year, 2, 28), Edge.day(year, 3, 1) - (leap ? 2 : 1));
            Edge.due("day " + year + " 2 29", x.day(year, 2, 29), leap ? Edge.day(year, 3, 1) - 1 : -2);
            Edge.due("day " + year + " 2 30", x.day(year, 2, 30), -2);
            Edge.due("what was refused", x.status(0), leap ? 1 : 2);
        }
    }

    private static void theNumbers() {
        Edge.told(Edge.TERMS, "they are numbered from 0, the first of January 1800, on");
        LocalDate date = LocalDate.of(1800, 1, 1);
        AgesTens x = new AgesTens();
        for (int number = 0; number <= Edge.LAST_DAY; number++) {
            if (number % 100 == 0) {
                x = new AgesTens();
            }
            int year = date.getYear();
            int month = date.getMonthValue();
            int day = date.getDayOfMonth();
            Edge.due("day of " + date, x.day(year, month, day), number);
            Edge.due("YEAR of " + number, x.date(number, 0), year);
            Edge.due("MONTH of " + number, x.date(number, 1), month);
            Edge.due("day of the month of " + number, x.date(number, 2), day);
            date = date.plusDays(1);
        }
    }

    private static void dayOfNoSuchDate() {
        Edge.told(2, "BAD: there is none such.");
        int[][] none = {{1999, 2, 29}, {1900, 2, 29}, {2100, 2, 29}, {2000, 2, 30}, {1999, 4, 31}, {1999, 6, 31},
            {1999, 9, 31}, {1999, 11, 31}, {1999, 1, 32}, {1999, 1, 0}, {1999, 1, -1}, {1999, 0, 1}, {1999, 13, 1},
            {1999, -1, 1}, {1999, 1, Integer.MIN_VALUE}, {1999, 1, Integer.MAX_VALUE}};
        for (int[] d : none) {
            Edge.bad(Edge::busy, "day " + d[0] + " " + d[1] + " " + d[2], x -> x.day(d[0], d[1], d[2]));
        }
    }

    private static void dayHasNoOtherYear() {
        Edge.told(2, "The number of a DAY.");
        Edge.range(Edge::busy, "day n 7 4", (x, n) -> x.day(n, 7, 4), 1800, Edge.day(1800, 7, 4), 2199,
            Edge.day(2199, 7, 4), -2);
        Edge.looks(Edge::busy, "day 1999 11 14", x -> x.day(1999, 11, 14), Edge.TODAY);
    }

    private static void dateOfADay() {
        Edge.told(3, "Of a DAY: YEAR (0), MONTH (1), day of it (2).");
        int[] ends = {1800, 1, 1, 2199, 12, 31};
        for (int what = 0; what <= 2; what++) {
            int w = what;
            Edge.looks(Edge::busy, "date 0 " + w, x -> x.date(0, w), ends[w]);
            Edge.looks(Edge::busy, "date 146096 " + w, x -> x.date(Edge.LAST_DAY, w), ends[w + 3]);
        }
        AgesTens x = new AgesTens();
        int leapDay = Edge.day(2000, 2, 29);
        Edge.due("the day ahead of a leap day", x.date(leapDay - 1, 2), 28);
        Edge.due("a leap day", x.date(leapDay, 2), 29);
        Edge.due("its MONTH", x.date(leapDay, 1), 2);
        Edge.due("the day behind it", x.date(leapDay + 1, 2), 1);
        Edge.due("the first of March where there is none", x.date(Edge.day(1900, 2, 28) + 1, 1), 3);
        Edge.due("the last day of a leap year", x.date(Edge.day(2001, 1, 1) - 1, 0), 2000);
        Edge.due("the first day of the next", x.date(Edge.day(2001, 1, 1), 0), 2001);
    }

    private static void dateOfNoDay() {
        Edge.told(3, "Of a DAY");
        for (int what = 0; what <= 2; what++) {
            int w = what;
            Edge.outside(Edge::busy, "date n " + w, (x, n) -> x.date(n, w), 0, Edge.LAST_DAY, -2);
        }
    }

    private static void dateOfNoWhat() {
        Edge.told(3, "BAD.");
        Edge.range(Edge::busy, "date 73000 n", (x, n) -> x.date(Edge.TODAY, n), 0, 1999, 2, 14, -2);
    }

    private static AgesTens bornOn(int year, int month, int day) {
        AgesTens x = new AgesTens();
        x.person(Edge.day(year, month, day));
        return x;
    }

    private static void ageByBirthdays() {
        Edge.told(Edge.TERMS, "AGE on a DAY: how many birthdays they have had behind that one they were BORN on");
        AgesTens x = bornOn(1950, 6, 15);
        Edge.due("on the day of birth", x.age(0, Edge.day(1950, 6, 15)), 0);
        Edge.due("the day ahead of the first birthday", x.age(0, Edge.day(1951, 6, 14)), 0);
        Edge.due("the first birthday", x.age(0, Edge.day(1951, 6, 15)), 1);
        Edge.due("at the end of a year", x.age(0, Edge.day(1999, 12, 31)), 49);
        Edge.due("at the beginning of the next", x.age(0, Edge.day(2000, 1, 1)), 49);
        Edge.due("ahead of a birthday in a leap year", x.age(0, Edge.day(2000, 6, 14)), 49);
        Edge.due("a birthday in a leap year", x.age(0, Edge.day(2000, 6, 15)), 50);
        AgesTens newYear = bornOn(1950, 1, 1);
        Edge.due("the first of January, the day ahead", newYear.age(0, Edge.day(1959, 12, 31)), 9);
        Edge.due("the first of January", newYear.age(0, Edge.day(1960, 1, 1)), 10);
        AgesTens lastOfYear = bornOn(1950, 12, 31);
        Edge.due("the last of December, the day ahead", lastOfYear.age(0, Edge.day(1960, 12, 30)), 9);
        Edge.due("the last of December", lastOfYear.age(0, Edge.day(1960, 12, 31)), 10);
        AgesTens march = bornOn(1951, 3, 1);
        Edge.due("the first of March, a leap day ahead", march.age(0, Edge.day(1952, 2, 29)), 0);
        Edge.due("the first of March", march.age(0, Edge.day(1952, 3, 1)), 1);
        AgesTens february = bornOn(1951, 2, 28);
        Edge.due("the 28th of February, the day ahead", february.age(0, Edge.day(1952, 2, 27)), 0);
        Edge.due("the 28th of February, in a leap year, too", february.age(0, Edge.day(1952, 2, 28)), 1);
    }

    private static void ageOfThoseOfThe29thOfFebruary() {
        Edge.told(Edge.TERMS, "who was on the 29th of February has it, in other years, on the first of March");
        AgesTens x = bornOn(1896, 2, 29);
        Edge.due("1896", x.age(0, Edge.day(1896, 2, 29)), 0);
        Edge.due("the day behind birth", x.age(0, Edge.day(1896, 3, 1)), 0);
        Edge.due("1897, the 28th of February", x.age(0, Edge.day(1897, 2, 28)), 0);
        Edge.due("1897, the first of March", x.age(0, Edge.day(1897, 3, 1)), 1);
        Edge.due("1900, the 28th of February", x.age(0, Edge.day(1900, 2, 28)), 3);
        Edge.due("1900, the first of March", x.age(0, Edge.day(1900, 3, 1)), 4);
        Edge.due("1904, the 28th of February", x.age(0, Edge.day(1904, 2, 28)), 7);
        Edge.due("1904, the 29th of February", x.age(0, Edge.day(1904, 2, 29)), 8);
        Edge.due("2000, the 28th of February", x.age(0, Edge.day(2000, 2, 28)), 103);
        Edge.due("2000, the 29th of February", x.age(0, Edge.day(2000, 2, 29)), 104);
        Edge.due("2100, the 28th of February", x.age(0, Edge.day(2100, 2, 28)), 203);
        Edge.due("2100, the first of March", x.age(0, Edge.day(2100, 3, 1)), 204);
    }

    private static void ageBeforeBirth() {
        Edge.told(Edge.TERMS, "before that they are NOT BORN");
        Edge.looks(() -> bornOn(1950, 6, 15), "the day ahead", x -> x.age(0, Edge.day(1950, 6, 14)), -1);
        Edge.looks(() -> bornOn(1950, 6, 15), "the day itself", x -> x.age(0, Edge.day(1950, 6, 15)), 0);
        Edge.looks(() -> bornOn(1950, 6, 15), "the first DAY there is", x -> x.age(0, 0), -1);
    }

    private static void ageNone() {
        Edge.told(7, "NONE: NOT BORN.");
        Edge.looks(Edge::busy, "the youngest, the day ahead", x -> x.age(3, Edge.day(1999, 1, 1) - 1), AgesTens.NONE);
        Edge.looks(Edge::busy, "the youngest, on the day", x -> x.age(3, Edge.day(1999, 1, 1)), 0);
    }

    private static void ageOfNobody() {
        Edge.told(7, "BAD.");
        Edge.range(Edge::busy, "age n 73000", (x, n) -> x.age(n, Edge.TODAY), 0, 10, 4, 30, -2);
        Edge.range(Edge::brimful, "age n 73000 of eight", (x, n) -> x.age(n, Edge.TODAY), 0, 10, 7, 199, -2);
        Edge.bad(Edge::empty, "age 0 0 of no PEOPLE", x -> x.age(0, 0));
    }

    private static void ageOnNoDay() {
        Edge.told(7, "AGE on a DAY.");
        Edge.range(Edge::busy, "age 0 n", (x, n) -> x.age(0, n), 0, -1, Edge.LAST_DAY, 210, -2);
    }

    private static void ageAtBothEnds() {
        Edge.told(7, "AGE on a DAY. NONE: NOT BORN.");
        AgesTens x = new AgesTens();
        x.person(0);
        x.person(Edge.LAST_DAY);
        Edge.due("the oldest on the first DAY", x.age(0, 0), 0);
        Edge.due("the oldest on the last DAY", x.age(0, Edge.LAST_DAY), 399);
        Edge.due("the youngest ahead of the last DAY", x.age(1, Edge.LAST_DAY - 1), -1);
        Edge.due("the youngest on the last DAY", x.age(1, Edge.LAST_DAY), 0);
        Edge.due("nothing was refused", x.status(0) + x.status(1) + x.status(2), 0);
    }
}
