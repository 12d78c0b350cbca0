/** Sentences about DATES, NEXT, WEDDING, and promises 17 (dates), 18 (next), 19 (wedding). */
final class EdgesOfDates {
    private static final int LAST = Edge.LAST_DAY;

    private EdgesOfDates() { }

    static void run() {
        datesAllOrNone();
        datesOfSomeDays();
        datesOfThe29thOfFebruary();
        datesInTheYearOfBirth();
        datesOfNoYear();
        datesOfNoCompany();
        datesAtNoGate();
        nextNoEarlier();
        nextIsTheDayItself();
        nextOverLeapYears();
        nextToTheLastDay();
        nextNone();
        nextOfNoCompany();
        nextAtNoPlace();
        weddingNoEarlier();
        weddingNoLaterThan1500();
        weddingToTheLastDay();
        weddingLeavesNobodyOfEither();
        weddingEachForItself();
        weddingOfEmptySets();
        weddingNone();
        weddingOfSetsWithOneAlike();
        weddingOfNoSet();
        weddingAtNoPlace();
    }

    /** One born on a DAY, and a gate. */
    private static AgesTens one(int law, int born) {
        AgesTens x = new AgesTens();
        x.gate(law, 8);
        x.person(born);
        return x;
    }

    // ---- promise 17

    private static void datesAllOrNone() {
        Edge.told(Edge.TERMS, "DATES: a COMPANY, a GATE: on how many DAYS of a YEAR it MAY");
        Edge.looks(() -> one(3, 0), "all of the first YEAR", x -> x.dates(1, 0, 1800), 365);
        Edge.looks(() -> one(3, 0), "all of a leap one", x -> x.dates(1, 0, 2000), 366);
        Edge.looks(() -> one(3, 0), "all of one that 100 divides", x -> x.dates(1, 0, 1900), 365);
        Edge.looks(() -> one(3, 0), "all of the last YEAR", x -> x.dates(1, 0, 2199), 365);
        Edge.looks(() -> one(0, 0), "all, by TENS", x -> x.dates(1, 0, 2000), 366);
        Edge.looks(() -> one(0, 0), "none, by TENS", x -> x.dates(1, 0, 2001), 0);
    }

    private static void datesOfSomeDays() {
        Edge.told(17, "on how many DAYS of a YEAR.");
        int born = Edge.day(1950, 6, 15);
        Edge.looks(() -> one(0, born), "from the birthday to the YEAR's end", x -> x.dates(1, 0, 1960), 200);
        Edge.looks(() -> one(0, born), "to the day ahead of the birthday", x -> x.dates(1, 0, 1961), 165);
        Edge.looks(() -> one(0, born), "the YEAR behind that", x -> x.dates(1, 0, 1962), 0);
        int newYearsEve = Edge.day(1950, 12, 31);
        Edge.looks(() -> one(0, newYearsEve), "the last DAY alone", x -> x.dates(1, 0, 1960), 1);
        Edge.looks(() -> one(0, newYearsEve), "all but the last DAY", x -> x.dates(1, 0, 1961), 364);
        Edge.looks(() -> one(0, Edge.day(1950, 1, 2)), "the first DAY alone", x -> x.dates(1, 0, 1961), 1);
        Edge.looks(() -> one(0, Edge.day(1950, 1, 2)), "all but the first DAY", x -> x.dates(1, 0, 1960), 365);
    }

    private static void datesOfThe29thOfFebruary() {
        Edge.told(Edge.TERMS, "(who was on the 29th of February has it, in other years, on the first of March)");
        int born = Edge.day(1940, 2, 29);
        Edge.looks(() -> one(0, born), "10 from the first of March 1950", x -> x.dates(1, 0, 1950), 306);
        Edge.looks(() -> one(0, born), "10 to the 28th of February 1951", x -> x.dates(1, 0, 1951), 59);
        Edge.looks(() -> one(0, born), "20 from the 29th of February 1960", x -> x.dates(1, 0, 1960), 307);
        Edge.looks(() -> one(0, born), "20 to the 28th of February 1961", x -> x.dates(1, 0, 1961), 59);
    }

    private static void datesInTheYearOfBirth() {
        Edge.told(17, "DATES");
        Edge.looks(() -> one(0, LAST), "born on the last DAY", x -> x.dates(1, 0, 2199), 1);
        Edge.looks(() -> one(0, LAST), "the YEAR ahead of it", x -> x.dates(1, 0, 2198), 0);
        Edge.looks(() -> one(0, 0), "born on the first DAY", x -> x.dates(1, 0, 1800), 365);
        Edge.looks(() -> one(0, 364), "born on the last of 1800", x -> x.dates(1, 0, 1800), 1);
        Edge.looks(() -> one(0, 364), "0 until the last of 1801", x -> x.dates(1, 0, 1801), 364);
    }

    private static void datesOfNoYear() {
        Edge.told(17, "of a YEAR. BAD.");
        Edge.range(() -> one(3, 0), "dates 1 0 n", (x, n) -> x.dates(1, 0, n), 1800, 365, 2199, 365, -2);
        Edge.range(Edge::busy, "dates 16 0 n", (x, n) -> x.dates(16, 0, n), 1800, 0, 2199, 365, -2);
    }

    private static void datesOfNoCompany() {
        Edge.told(17, "BAD.");
        Edge.range(Edge::busy, "dates n 1 1999", (x, n) -> x.dates(n, 1, 1999), 1, 0, 31, 0, -2);
        Edge.range(Edge::brimful, "dates n 3 1999", (x, n) -> x.dates(n, 3, 1999), 1, 365, 255, 0, -2);
        Edge.bad(() -> Edge.of(3, 8), "dates 1 0 1999 of no PEOPLE", x -> x.dates(1, 0, 1999));
    }

    private static void datesAtNoGate() {
        Edge.told(17, "DATES: on how many DAYS of a YEAR. BAD.");
        Edge.range(Edge::busy, "dates 16 n 1999", (x, n) -> x.dates(16, n, 1999), 0, 365, 1, 365, -2);
        Edge.range(Edge::brimful, "dates 1 n 1999", (x, n) -> x.dates(1, n, 1999), 0, 365, 3, 365, -2);
    }

    // ---- promise 18

    private static void nextNoEarlier() {
        Edge.told(Edge.TERMS, "NEXT: the first DAY, no earlier than one");
        int born = Edge.day(1950, 6, 15);
        int ten = Edge.day(1960, 6, 15);
        int eleven = Edge.day(1961, 6, 15);
        Edge.looks(() -> one(0, born), "from the first DAY: on that of birth", x -> x.next(1, 0, 0), born);
        Edge.looks(() -> one(0, born), "behind the last of 0 years", x -> x.next(1, 0, Edge.day(1951, 6, 15)), ten);
        Edge.looks(() -> one(0, born), "the day ahead", x -> x.next(1, 0, ten - 1), ten);
        Edge.looks(() -> one(0, born), "the last DAY of 10 years", x -> x.next(1, 0, eleven - 1), eleven - 1);
        Edge.looks(() -> one(0, born), "the first of 11 years", x -> x.next(1, 0, eleven), Edge.day(1970, 6, 15));
    }

    private static void nextIsTheDayItself() {
        Edge.told(18, "NEXT.");
        Edge.looks(() -> one(3, 0), "the first DAY", x -> x.next(1, 0, 0), 0);
        Edge.looks(() -> one(3, 0), "the last DAY", x -> x.next(1, 0, LAST), LAST);
    }

    private static void nextOverLeapYears() {
        Edge.told(Edge.TERMS, "who was on the 29th of February has it, in other years, on the first of March");
        int born = Edge.day(1896, 2, 29);
        Edge.looks(() -> one(0, born), "10 in 1906", x -> x.next(1, 0, Edge.day(1900, 1, 1)), Edge.day(1906, 3, 1));
        Edge.looks(() -> one(0, born), "20 in 1916", x -> x.next(1, 0, Edge.day(1907, 3, 1)), Edge.day(1916, 2, 29));
        Edge.looks(() -> one(0, born), "the last DAY of 10", x -> x.next(1, 0, Edge.day(1907, 2, 28)),
            Edge.day(1907, 2, 28));
    }

    private static void nextToTheLastDay() {
        Edge.told(Edge.TERMS, "to the last there is; none");
        int tenOnTheLast = Edge.day(2189, 12, 31);
        Edge.looks(() -> one(0, tenOnTheLast), "10 on the last DAY", x -> x.next(1, 0, Edge.day(2191, 1, 1)), LAST);
        Edge.looks(() -> one(0, tenOnTheLast), "on the last DAY itself", x -> x.next(1, 0, LAST), LAST);
        Edge.looks(() -> one(0, tenOnTheLast + 1), "10 one DAY too late", x -> x.next(1, 0, Edge.day(2191, 1, 1)), -1);
        Edge.looks(() -> one(0, LAST), "born on the last DAY", x -> x.next(1, 0, 0), LAST);
        Edge.looks(() -> one(0, LAST), "born on the last DAY, from the one ahead", x -> x.next(1, 0, LAST - 1), LAST);
        Edge.looks(() -> one(2, 0), "361 of the first DAY, to its last", x -> x.next(1, 0, Edge.day(2161, 12, 31)),
            Edge.day(2161, 12, 31));
        Edge.looks(() -> one(2, 0), "400 comes one DAY too late", x -> x.next(1, 0, Edge.day(2162, 1, 1)), -1);
    }

    private static AgesTens never() {
        AgesTens x = Edge.of(3, 2, 5, 5, 8);
        x.pair(1, 2, 1);
        return x;
    }

    private static void nextNone() {
        Edge.told(18, "NONE.");
        Edge.looks(EdgesOfDates::never, "never: they are alike", x -> x.next(3, 0, 0), AgesTens.NONE);
        Edge.looks(EdgesOfDates::never, "never: SEATS", x -> x.next(7, 0, 0), AgesTens.NONE);
        Edge.looks(EdgesOfDates::never, "never: APART", x -> x.next(6, 0, 0), AgesTens.NONE);
        Edge.looks(Edge::busy, "never: WITH", x -> x.next(1, 1, 0), AgesTens.NONE);
        Edge.looks(() -> one(0, 0), "399 on the last DAY", x -> x.next(1, 0, LAST), AgesTens.NONE);
    }

    private static void nextOfNoCompany() {
        Edge.told(18, "BAD.");
        Edge.range(Edge::busy, "next n 1 73000", (x, n) -> x.next(n, 1, Edge.TODAY), 1, -1, 31, -1, -2);
        Edge.range(Edge::brimful, "next n 3 73000", (x, n) -> x.next(n, 3, Edge.TODAY), 1, Edge.TODAY, 255, -1, -2);
        Edge.bad(() -> Edge.of(3, 8), "next 1 0 73000 of no PEOPLE", x -> x.next(1, 0, Edge.TODAY));
    }

    private static void nextAtNoPlace() {
        Edge.told(18, "NEXT. NONE. BAD.");
        Edge.range(Edge::busy, "next 16 n 73000", (x, n) -> x.next(16, n, Edge.TODAY), 0, Edge.TODAY, 1, Edge.TODAY,
            -2);
        Edge.outside(Edge::brimful, "next 1 n 73000 of four", (x, n) -> x.next(1, n, Edge.TODAY), 0, 3, -2);
        Edge.range(Edge::busy, "next 16 0 n", (x, n) -> x.next(16, 0, n), 0, Edge.day(1969, 1, 1), LAST, LAST, -2);
    }

    // ---- promise 19

    private static AgesTens two(int law, int bornOne, int bornOther) {
        AgesTens x = one(law, bornOne);
        x.person(bornOther);
        return x;
    }

    private static void weddingNoEarlier() {
        Edge.told(Edge.TERMS, "WEDDING: the first DAY, no earlier than one");
        Edge.looks(() -> two(3, 0, 0), "the first DAY", x -> x.wedding(1, 2, 0, 0), 0);
        Edge.looks(() -> two(3, 0, 0), "the last DAY", x -> x.wedding(1, 2, 0, LAST), LAST);
        Edge.looks(() -> two(0, 1000, 1200), "the DAY itself", x -> x.wedding(1, 2, 0, 1300), 1300);
        Edge.looks(() -> two(0, 1000, 1200), "the DAY ahead", x -> x.wedding(1, 2, 0, 1199), 1200);
        Edge.looks(() -> two(0, 1000, 1200), "the last on which both are 0", x -> x.wedding(1, 2, 0, 1364), 1364);
        Edge.looks(() -> two(0, 1000, 1200), "the first on which one is 1", x -> x.wedding(1, 2, 0, 1365), -1);
    }

    private static void weddingNoLaterThan1500() {
        Edge.told(Edge.TERMS, "no more than 1500 behind it");
        Edge.looks(() -> two(0, 5000, 5000), "1499 behind it", x -> x.wedding(1, 2, 0, 3501), 5000);
        Edge.looks(() -> two(0, 5000, 5000), "1500 behind it", x -> x.wedding(1, 2, 0, 3500), 5000);
        Edge.looks(() -> two(0, 5000, 5000), "1501 behind it", x -> x.wedding(1, 2, 0, 3499), -1);
        int thirty = Edge.day(1999, 3, 1);
        AgesTens x = two(0, Edge.day(1969, 3, 1), Edge.day(1969, 3, 1));
        Edge.due("a birthday 1500 behind it", x.wedding(1, 2, 0, thirty - 1500), thirty);
        Edge.due("a birthday 1501 behind it", x.wedding(1, 2, 0, thirty - 1501), -1);
    }

    private static void weddingToTheLastDay() {
        Edge.told(19, "WEDDING. NONE.");
        Edge.looks(() -> two(0, LAST, LAST), "both of the last DAY", x -> x.wedding(1, 2, 0, LAST - 1500), LAST);
        Edge.looks(() -> two(0, LAST, LAST), "1501 behind it", x -> x.wedding(1, 2, 0, LAST - 1501), -1);
        Edge.looks(() -> two(0, LAST, LAST), "the last DAY itself", x -> x.wedding(1, 2, 0, LAST), LAST);
        Edge.looks(() -> two(0, 0, 0), "399 years, no DAY more", x -> x.wedding(1, 2, 0, LAST), -1);
        Edge.looks(() -> two(0, 0, 0), "less than 1500 are left", x -> x.wedding(1, 2, 0, LAST - 700), -1);
    }

    private static void weddingLeavesNobodyOfEither() {
        Edge.told(Edge.TERMS, "of two sets (that have nobody in common) at a GATE each leaves nobody");
        Edge.looks(() -> two(0, 0, 3653), "one is 11, the other 0", x -> x.wedding(1, 2, 0, 5000), -1);
        Edge.looks(() -> two(0, 0, 3653), "the one alone", x -> x.wedding(1, 0, 0, 3652), 3652);
        int bothTens = Edge.day(1810, 1, 2);
        Edge.looks(() -> two(0, 0, bothTens), "10 and 0", x -> x.wedding(1, 2, 0, 3652), bothTens);
        Edge.looks(() -> two(0, 0, bothTens), "the other ahead", x -> x.wedding(2, 1, 0, 3652), bothTens);
    }

    private static void weddingEachForItself() {
        Edge.told(Edge.TERMS, "(OVER, each for itself)");
        Edge.looks(() -> Edge.of(0, 8, 5, 5), "5 and 5 come to ten, but not each", x -> x.wedding(1, 2, 0,
            Edge.TODAY), -1);
        Edge.looks(() -> Edge.of(0, 8, 5, 5), "5 and 5 as one set", x -> x.wedding(3, 0, 0, Edge.TODAY), Edge.TODAY);
        Edge.looks(() -> Edge.of(0, 2, 1, 9, 9, 1, 5, 5, 0, 10), "in several COMPANIES each", x -> x.wedding(0x33,
            0xcc, 0, Edge.TODAY), Edge.TODAY);
        Edge.looks(() -> Edge.of(0, 1, new int[8]), "eight COMPANIES of one", x -> x.wedding(255, 0, 0, Edge.TODAY),
            Edge.TODAY);
        Edge.looks(Edge::busy, "two who are WITH, in sets apart", x -> x.wedding(1, 2, 0, Edge.TODAY), -1);
    }

    private static void weddingOfEmptySets() {
        Edge.told(19, "WEDDING.");
        Edge.looks(Edge::busy, "both empty", x -> x.wedding(0, 0, 0, 500), 500);
        Edge.looks(() -> Edge.of(0, 1), "both empty, of no PEOPLE, the last DAY", x -> x.wedding(0, 0, 0, LAST), LAST);
        Edge.looks(() -> one(0, 1400), "one empty", x -> x.wedding(0, 1, 0, 500), 1400);
        Edge.looks(() -> one(0, 1400), "the other empty", x -> x.wedding(1, 0, 0, 500), 1400);
    }

    private static void weddingNone() {
        Edge.told(19, "NONE.");
        Edge.looks(() -> Edge.of(0, 8, 1, 1), "too long until 10", x -> x.wedding(1, 2, 0, Edge.TODAY), AgesTens.NONE);
        Edge.looks(() -> Edge.of(0, 8, 1, 1), "NOT BORN", x -> x.wedding(1, 2, 0, 0), AgesTens.NONE);
    }

    private static void weddingOfSetsWithOneAlike() {
        Edge.told(19, "BAD: sets that have one alike, too.");
        Edge.bad(() -> two(3, 0, 0), "1 and 1", x -> x.wedding(1, 1, 0, 0));
        Edge.bad(() -> two(3, 0, 0), "1 and 3", x -> x.wedding(1, 3, 0, 0));
        Edge.bad(() -> two(3, 0, 0), "3 and 2", x -> x.wedding(3, 2, 0, 0));
        Edge.bad(Edge::brimful, "all and the last", x -> x.wedding(255, 128, 0, 0));
        Edge.takes(Edge::brimful, "all and nobody", x -> x.wedding(255, 0, 0, 0), -1);
    }

    private static void weddingOfNoSet() {
        Edge.told(19, "BAD");
        Edge.range(() -> two(3, 0, 500), "wedding n 0 0 0", (x, n) -> x.wedding(n, 0, 0, 0), 0, 0, 3, 500, -2);
        Edge.range(() -> two(3, 0, 500), "wedding 0 n 0 0", (x, n) -> x.wedding(0, n, 0, 0), 0, 0, 3, 500, -2);
        Edge.range(Edge::brimful, "wedding n 0 3 73000", (x, n) -> x.wedding(n, 0, 3, Edge.TODAY), 0, Edge.TODAY, 255,
            Edge.TODAY, -2);
        Edge.range(Edge::brimful, "wedding 0 n 3 73000", (x, n) -> x.wedding(0, n, 3, Edge.TODAY), 0, Edge.TODAY, 255,
            Edge.TODAY, -2);
    }

    private static void weddingAtNoPlace() {
        Edge.told(19, "WEDDING. NONE. BAD");
        Edge.range(Edge::busy, "wedding 8 16 n 73000", (x, n) -> x.wedding(8, 16, n, Edge.TODAY), 0, Edge.TODAY, 1,
            Edge.TODAY, -2);
        Edge.outside(Edge::brimful, "wedding 1 2 n 73000", (x, n) -> x.wedding(1, 2, n, Edge.TODAY), 0, 3, -2);
        Edge.range(() -> two(3, 0, 0), "wedding 1 2 0 n", (x, n) -> x.wedding(1, 2, 0, n), 0, 0, LAST, LAST, -2);
    }
}
