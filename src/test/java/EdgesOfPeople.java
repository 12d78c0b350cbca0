/** Sentences of Terms about PEOPLE, LAWS, GATES, ties and COMPANIES, and promises 1 (a new object), 4 to 6, 8. */
final class EdgesOfPeople {
    private EdgesOfPeople() { }

    static void run() {
        newObject();
        newObjectHasNobody();
        peopleAsTheyCome();
        personDay();
        personFull();
        companyOfOneAtLeast();
        lawOfTens();
        lawOfSevens();
        lawOfSquares();
        lawOfUnlike();
        lawOfTensUnlike();
        gatesAsTheyCome();
        gateLaw();
        gateSeats();
        gateFull();
        seatsOneAndEight();
        withTogether();
        withNotAtAll();
        apartNever();
        withAndApart();
        reasonsInOrder();
        pairOfWhom();
        pairOfWhat();
        pairAlike();
        pairIsSo();
        whyOfNoCompany();
        whyAtNoGate();
        whyOnNoDay();
        whyCanBeEach();
    }

    // ---- promise 1

    private static void newObject() {
        Edge.told(1, "As told; no PEOPLE, no GATES.");
        AgesTens x = new AgesTens();
        for (int what = 0; what <= 3; what++) {
            Edge.due("count " + what, x.count(what), 0);
        }
        for (int what = 0; what <= 2; what++) {
            Edge.due("status " + what, x.status(what), 0);
        }
        Edge.due("THE FRACTION above", x.part(0), 0);
        Edge.due("THE FRACTION below", x.part(1), 1);
        for (int r = 0; r <= 9; r++) {
            Edge.due("crowd " + r, x.crowd(r, 0), 0);
        }
        Edge.due("liars", x.liars(0), 0);
        Edge.due("fits", x.fits(-1), 100000);
        Edge.due("clear", x.clear(), 0);
        Edge.due("forget", x.forget(), 0);
        Edge.due("read", x.read(), 0);
        Edge.due("from 0", x.from(0), -3);
        Edge.due("from 1", x.from(1), -3);
    }

    private static void newObjectHasNobody() {
        Edge.told(1, "no PEOPLE, no GATES.");
        Edge.bad(Edge::empty, "age", x -> x.age(0, 0));
        Edge.bad(Edge::empty, "pair", x -> x.pair(0, 1, 0));
        Edge.badAs(-10, Edge::empty, "why", x -> x.why(1, 0, 0));
        Edge.badAs(-10, Edge::empty, "can", x -> x.can(0, 0, 0, -1));
        Edge.bad(Edge::empty, "over", x -> x.over(0, 0, 0, 0));
        Edge.badAs(-10, Edge::empty, "parts", x -> x.parts(0, 0, 0, 0));
        Edge.bad(Edge::empty, "lent", x -> x.lent(0, 0, 0));
        Edge.bad(Edge::empty, "worth", x -> x.worth(0, 0, 0));
        Edge.bad(Edge::empty, "dates", x -> x.dates(1, 0, 1999));
        Edge.bad(Edge::empty, "next", x -> x.next(1, 0, 0));
        Edge.bad(Edge::empty, "wedding", x -> x.wedding(0, 0, 0, 0));
    }

    // ---- promise 4

    private static void peopleAsTheyCome() {
        Edge.told(Edge.TERMS, "PEOPLE 0 .. 7, as they come, were BORN on a DAY.");
        AgesTens x = new AgesTens();
        for (int p = 0; p <= 7; p++) {
            Edge.due("person " + p, x.person(1000 * (7 - p)), p);
            Edge.due("how many there are", x.count(0), p + 1);
            Edge.due("born on that DAY", x.age(p, 1000 * (7 - p)), 0);
        }
    }

    private static void personDay() {
        Edge.told(4, "One of PEOPLE, BORN on a DAY: the number. BAD");
        Edge.range(Edge::empty, "person n", (x, n) -> x.person(n), 0, 0, Edge.LAST_DAY, 0, -2);
        Edge.range(Edge::busy, "person n behind five", (x, n) -> x.person(n), 0, 5, Edge.LAST_DAY, 5, -2);
    }

    private static void personFull() {
        Edge.told(4, "FULL: 8.");
        Edge.takes(() -> Edge.of(0, 8, 1, 2, 3, 4, 5, 6, 7), "the 8th", x -> x.person(0), 7);
        Edge.full(() -> Edge.of(0, 8, 1, 2, 3, 4, 5, 6, 7, 8), "the 9th", x -> x.person(0));
        Edge.full(Edge::brimful, "the 9th, all else full, too", x -> x.person(Edge.LAST_DAY));
        Edge.outside(Edge::brimful, "BAD is ahead of FULL: person n", (x, n) -> x.person(n), 0, Edge.LAST_DAY, -2);
    }

    // ---- laws

    private static void lawful(int law, boolean may, int... ages) {
        AgesTens x = Edge.of(law, 8, ages);
        StringBuilder told = new StringBuilder("law " + law + " of");
        for (int age : ages) {
            told.append(' ').append(age);
        }
        Edge.due(told.toString(), x.why((1 << ages.length) - 1, 0, Edge.TODAY), may ? 0 : 5);
    }

    private static void companyOfOneAtLeast() {
        Edge.told(Edge.TERMS, "LAWS, by YEARS of AGE together, each of a company of one at least");
        for (int law = 0; law <= 4; law++) {
            int l = law;
            Edge.looks(() -> Edge.of(l, 1, 0), "law " + l + ": one of 0 years", x -> x.why(1, 0, Edge.TODAY), 0);
            Edge.badAs(-10, () -> Edge.of(l, 1, 0), "law " + l + ": nobody", x -> x.why(0, 0, Edge.TODAY));
        }
    }

    private static void lawOfTens() {
        Edge.told(Edge.TERMS, "0 TENS: 10 divides them.");
        lawful(0, true, 0);
        lawful(0, false, 1);
        lawful(0, false, 5);
        lawful(0, false, 9);
        lawful(0, true, 10);
        lawful(0, false, 11);
        lawful(0, true, 5, 5);
        lawful(0, true, 199, 1);
        lawful(0, false, 99, 99, 99);
        lawful(0, true, 0, 0, 0, 0, 0, 0, 0, 0);
        lawful(0, true, 199, 199, 199, 199, 199, 199, 199, 7);
        lawful(0, false, 199, 199, 199, 199, 199, 199, 199, 6);
    }

    private static void lawOfSevens() {
        Edge.told(Edge.TERMS, "1 SEVENS: 7 divides them.");
        lawful(1, true, 0);
        lawful(1, false, 6);
        lawful(1, true, 7);
        lawful(1, false, 8);
        lawful(1, false, 10);
        lawful(1, true, 3, 4);
        lawful(1, true, 0, 0, 0, 0, 0, 0, 0, 0);
        lawful(1, true, 199, 199, 199, 199, 199, 199, 199, 0);
        lawful(1, false, 199, 199, 199, 199, 199, 199, 199, 1);
    }

    private static void lawOfSquares() {
        Edge.told(Edge.TERMS, "2 SQUARES: 0, 1, 4, 9, .. .");
        for (int root = 0; root <= 14; root++) {
            lawful(2, true, root * root);
        }
        int[] others = {2, 3, 5, 8, 10, 15, 17, 24, 26, 143, 145, 168, 170, 195, 197};
        for (int years : others) {
            lawful(2, false, years);
        }
        lawful(2, true, 0, 0, 0, 0, 0, 0, 0, 0);
        int eight = 255;
        AgesTens x = new AgesTens();
        x.gate(2, 8);
        for (int p = 0; p < 8; p++) {
            x.person(0);
        }
        Edge.due("eight of 391", x.why(eight, 0, Edge.day(2192, 1, 1) - 1), 5);
        Edge.due("eight of 392: 56 times 56", x.why(eight, 0, Edge.day(2192, 1, 1)), 0);
        Edge.due("eight of 393", x.why(eight, 0, Edge.day(2193, 1, 1)), 5);
        Edge.due("eight of 399, the most there can be", x.why(eight, 0, Edge.LAST_DAY), 5);
    }

    private static void lawOfUnlike() {
        Edge.told(Edge.TERMS, "3 UNLIKE: no two AGES are alike (whatever they come to).");
        lawful(3, true, 7);
        lawful(3, true, 7, 8);
        lawful(3, false, 7, 7);
        lawful(3, false, 0, 0);
        lawful(3, false, 7, 8, 7);
        lawful(3, true, 1, 2, 3, 4, 5, 6, 7, 8);
        lawful(3, false, 1, 2, 3, 4, 5, 6, 7, 1);
        lawful(3, false, 1, 2, 3, 4, 5, 6, 7, 7);
        lawful(3, false, 1, 1, 3, 4, 5, 6, 7, 8);
        AgesTens x = Edge.of(3, 8, 7, 7, 8);
        Edge.due("who is not in it is not looked at", x.why(5, 0, Edge.TODAY), 0);
        AgesTens sameYear = new AgesTens();
        sameYear.gate(3, 8);
        sameYear.person(Edge.day(1950, 3, 1));
        sameYear.person(Edge.day(1950, 9, 1));
        Edge.due("of like AGE by the YEAR's end", sameYear.why(3, 0, Edge.day(1999, 12, 31)), 5);
        Edge.due("between their birthdays unlike", sameYear.why(3, 0, Edge.day(1999, 3, 1)), 0);
        Edge.due("alike again", sameYear.why(3, 0, Edge.day(1999, 9, 1)), 5);
    }

    private static void lawOfTensUnlike() {
        Edge.told(Edge.TERMS, "4 TENS UNLIKE: both 0 and 3.");
        lawful(4, true, 0);
        lawful(4, true, 10);
        lawful(4, false, 11);
        lawful(4, true, 4, 6);
        lawful(4, false, 5, 5);
        lawful(4, false, 4, 7);
        lawful(4, false, 0, 0);
        lawful(4, true, 0, 10);
        lawful(4, true, 1, 2, 3, 4, 5, 6, 7, 12);
        lawful(4, false, 1, 2, 3, 4, 5, 6, 7, 2);
    }

    // ---- promise 5

    private static void gatesAsTheyCome() {
        Edge.told(Edge.TERMS, "GATES 0 .. 3, as they come: a LAW, SEATS (1 .. 8).");
        AgesTens x = new AgesTens();
        x.person(Edge.day(1989, 1, 1));
        x.person(Edge.day(1992, 1, 1));
        int[] laws = {0, 1, 2, 3};
        for (int g = 0; g <= 3; g++) {
            Edge.due("gate " + g, x.gate(laws[g], 1 + g), g);
            Edge.due("how many there are", x.count(1), g + 1);
        }
        Edge.due("10 years at TENS", x.why(1, 0, Edge.TODAY), 0);
        Edge.due("7 years at TENS", x.why(2, 0, Edge.TODAY), 5);
        Edge.due("both at one of one SEAT", x.why(3, 0, Edge.TODAY), 2);
        Edge.due("10 years at SEVENS", x.why(1, 1, Edge.TODAY), 5);
        Edge.due("7 years at SEVENS", x.why(2, 1, Edge.TODAY), 0);
        Edge.due("both at SQUARES", x.why(3, 2, Edge.TODAY), 5);
        Edge.due("both at UNLIKE", x.why(3, 3, Edge.TODAY), 0);
    }

    private static void gateLaw() {
        Edge.told(5, "A GATE: its number. BAD");
        Edge.range(Edge::empty, "gate n 1", (x, n) -> x.gate(n, 1), 0, 0, 4, 0, -2);
        Edge.range(Edge::busy, "gate n 8 behind two", (x, n) -> x.gate(n, 8), 0, 2, 4, 2, -2);
    }

    private static void gateSeats() {
        Edge.told(Edge.TERMS, "SEATS (1 .. 8)");
        Edge.range(Edge::empty, "gate 0 n", (x, n) -> x.gate(0, n), 1, 0, 8, 0, -2);
        Edge.range(Edge::busy, "gate 4 n behind two", (x, n) -> x.gate(4, n), 1, 2, 8, 2, -2);
    }

    private static AgesTens threeGates() {
        AgesTens x = Edge.busy();
        x.gate(1, 1);
        return x;
    }

    private static void gateFull() {
        Edge.told(5, "FULL: 4.");
        Edge.takes(EdgesOfPeople::threeGates, "the 4th", x -> x.gate(0, 1), 3);
        Edge.full(Edge::brimful, "the 5th", x -> x.gate(0, 1));
        Edge.full(Edge::brimful, "the 5th, of the greatest numbers", x -> x.gate(4, 8));
        Edge.outside(Edge::brimful, "BAD is ahead of FULL: gate n 1", (x, n) -> x.gate(n, 1), 0, 4, -2);
        Edge.outside(Edge::brimful, "BAD is ahead of FULL: gate 0 n", (x, n) -> x.gate(0, n), 1, 8, -2);
    }

    private static void seatsOneAndEight() {
        Edge.told(Edge.TERMS, "2 more than SEATS");
        for (int seats = 1; seats <= 8; seats++) {
            AgesTens x = Edge.of(0, seats, 0, 0, 0, 0, 0, 0, 0, 0);
            for (int company = 1; company <= 255; company++) {
                int want = Integer.bitCount(company) > seats ? 2 : 0;
                Edge.due(seats + " SEATS, company " + company, x.why(company, 0, Edge.TODAY), want);
            }
        }
    }

    // ---- ties and reasons

    private static AgesTens tied(int... whats) {
        AgesTens x = Edge.of(0, 8, 0, 0, 0);
        for (int what : whats) {
            x.pair(0, 1, what);
        }
        return x;
    }

    private static void reasons(AgesTens x, int... want) {
        for (int company = 1; company <= want.length; company++) {
            Edge.due("why " + company, x.why(company, 0, Edge.TODAY), want[company - 1]);
        }
    }

    private static void withTogether() {
        Edge.told(Edge.TERMS, "WITH: two of PEOPLE go together or not at all");
        reasons(tied(0), 3, 3, 0, 0, 3, 3, 0);
    }

    private static void withNotAtAll() {
        Edge.told(Edge.TERMS, "3 one WITH lacks");
        AgesTens x = Edge.of(0, 8, 0, 0, 0);
        x.pair(2, 1, 0);
        x.pair(1, 0, 0);
        reasons(x, 3, 3, 3, 3, 3, 3, 0);
    }

    private static void apartNever() {
        Edge.told(Edge.TERMS, "APART: never together");
        reasons(tied(1), 0, 0, 4, 0, 0, 0, 4);
        AgesTens x = tied(1);
        x.pair(1, 2, 1);
        reasons(x, 0, 0, 4, 0, 0, 4, 4);
        x.pair(2, 0, 1);
        reasons(x, 0, 0, 4, 0, 4, 4, 4);
    }

    private static void withAndApart() {
        Edge.told(Edge.TERMS, "(both may be told: then neither goes)");
        reasons(tied(0, 1), 3, 3, 4, 0, 3, 3, 4);
        reasons(tied(1, 0), 3, 3, 4, 0, 3, 3, 4);
        Edge.due("who can go", tied(0, 1).can(0, Edge.TODAY, 0, -1), 1);
    }

    private static void reasonsInOrder() {
        Edge.told(Edge.TERMS, "why not, the first of: 1 one is NOT BORN, 2 more than SEATS, 3 one WITH lacks, "
            + "4 two APART are in it, 5 the LAW; 0: it MAY.");
        AgesTens x = Edge.of(0, 3, 1, 1, 1, 1, 0);
        x.pair(0, 1, 1);
        x.pair(1, 2, 0);
        int beforeTheYoungest = Edge.day(1998, 12, 31);
        Edge.due("1 ahead of 2, 3, 4, 5", x.why(0b11011, 0, beforeTheYoungest), 1);
        Edge.due("2 ahead of 3, 4, 5", x.why(0b11011, 0, Edge.TODAY), 2);
        Edge.due("3 ahead of 4, 5", x.why(0b00011, 0, Edge.TODAY), 3);
        Edge.due("3 ahead of 5", x.why(0b00010, 0, Edge.TODAY), 3);
        Edge.due("4 ahead of 5", x.why(0b00111, 0, Edge.TODAY), 4);
        Edge.due("5", x.why(0b00110, 0, Edge.TODAY), 5);
        Edge.due("0", x.why(0b10000, 0, Edge.TODAY), 0);
    }

    // ---- promise 6

    private static void pairOfWhom() {
        Edge.told(6, "of two: 1. BAD");
        Edge.range(Edge::busy, "pair n 3 0", (x, n) -> x.pair(n, 3, 0), 0, 1, 4, 1, -2);
        Edge.range(Edge::busy, "pair 3 n 1", (x, n) -> x.pair(3, n, 1), 0, 1, 4, 1, -2);
        Edge.range(Edge::brimful, "pair n 3 1 of eight", (x, n) -> x.pair(n, 3, 1), 0, 1, 7, 1, -2);
        Edge.range(Edge::brimful, "pair 3 n 0 of eight", (x, n) -> x.pair(3, n, 0), 0, 1, 7, 1, -2);
        Edge.bad(() -> Edge.of(0, 1, 5), "pair 0 1 0 of one", x -> x.pair(0, 1, 0));
    }

    private static void pairOfWhat() {
        Edge.told(6, "WITH (0), APART (1)");
        Edge.range(Edge::busy, "pair 3 4 n", (x, n) -> x.pair(3, 4, n), 0, 1, 1, 1, -2);
    }

    private static void pairAlike() {
        Edge.told(6, "BAD: alike, too");
        for (int p = 0; p < 8; p++) {
            int alike = p;
            Edge.bad(Edge::brimful, "WITH of " + p + " and " + p, x -> x.pair(alike, alike, 0));
            Edge.bad(Edge::brimful, "APART of " + p + " and " + p, x -> x.pair(alike, alike, 1));
        }
    }

    private static void pairIsSo() {
        Edge.told(6, "NO: it is so.");
        Edge.no(Edge::busy, "WITH", x -> x.pair(0, 1, 0));
        Edge.no(Edge::busy, "WITH, the other ahead", x -> x.pair(1, 0, 0));
        Edge.no(Edge::busy, "APART", x -> x.pair(1, 2, 1));
        Edge.no(Edge::busy, "APART, the other ahead", x -> x.pair(2, 1, 1));
        Edge.takes(Edge::busy, "APART of those who are WITH", x -> x.pair(0, 1, 1), 1);
        Edge.takes(Edge::busy, "WITH of those who are APART", x -> x.pair(2, 1, 0), 1);
        Edge.takes(Edge::busy, "WITH, of which each has a WITH of another", x -> x.pair(0, 2, 0), 1);
        Edge.outside(Edge::busy, "BAD is ahead of NO: pair 0 1 n", (x, n) -> x.pair(0, 1, n), 0, 1, -2);
    }

    // ---- promise 8

    private static void whyOfNoCompany() {
        Edge.told(Edge.TERMS, "A COMPANY of PEOPLE (bits, one at least)");
        Edge.range(Edge::busy, "why n 1 73000", (x, n) -> x.why(n, 1, Edge.TODAY), 1, 3, 31, 4, -10);
        Edge.range(Edge::brimful, "why n 0 73000", (x, n) -> x.why(n, 0, Edge.TODAY), 1, 0, 255, 5, -10);
        Edge.badAs(-10, () -> Edge.of(0, 8), "why 1 of no PEOPLE", x -> x.why(1, 0, Edge.TODAY));
        Edge.badAs(-10, () -> Edge.of(0, 8), "why 0 of no PEOPLE", x -> x.why(0, 0, Edge.TODAY));
        Edge.badAs(-10, Edge::busy, "one who is and one who is not", x -> x.why(33, 1, Edge.TODAY));
    }

    private static void whyAtNoGate() {
        Edge.told(8, "BAD: -10.");
        Edge.range(Edge::busy, "why 16 n 73000", (x, n) -> x.why(16, n, Edge.TODAY), 0, 0, 1, 0, -10);
        Edge.range(Edge::brimful, "why 1 n 73000", (x, n) -> x.why(1, n, Edge.TODAY), 0, 0, 3, 0, -10);
    }

    private static void whyOnNoDay() {
        Edge.told(8, "Why a COMPANY can not pass");
        Edge.range(Edge::busy, "why 16 0 n", (x, n) -> x.why(16, 0, n), 0, 1, Edge.LAST_DAY, 0, -10);
    }

    private static void whyCanBeEach() {
        Edge.told(8, "1 .. 5; 0: it MAY.");
        Edge.looks(Edge::busy, "1", x -> x.why(8, 0, Edge.day(1998, 12, 31)), 1);
        Edge.looks(Edge::busy, "2", x -> x.why(31, 0, Edge.TODAY), 2);
        Edge.looks(Edge::busy, "3", x -> x.why(1, 0, Edge.TODAY), 3);
        Edge.looks(Edge::busy, "4", x -> x.why(7, 0, Edge.TODAY), 4);
        Edge.looks(Edge::busy, "5", x -> x.why(4, 0, Edge.TODAY), 5);
        Edge.looks(Edge::busy, "0", x -> x.why(8, 0, Edge.TODAY), 0);
    }
}
