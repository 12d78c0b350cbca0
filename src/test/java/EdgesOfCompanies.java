/** Sentences about WHO CAN, OVER, PARTS, LENT, WORTH, and promises 12 (can) to 16 (worth). */
final class EdgesOfCompanies {
    private static final int DAY = Edge.TODAY;

    private EdgesOfCompanies() { }

    static void run() {
        companiesOfAnyNumber();
        companiesOfK();
        theIthByBits();
        canHowMany();
        canNotSoMany();
        canAtNoPlace();
        canOfNoNumber();
        canBelowNone();
        canOfNobody();
        overFewestLeft();
        overThenFewestCompanies();
        overEachInOneAtMost();
        overOfTheEmptySet();
        overOfNoSet();
        overAtNoPlace();
        overOfNoWhat();
        partsOfTheLeastFirst();
        partsInLeastBits();
        partsOfThoseLeft();
        partsNotSoMany();
        partsOfNoSet();
        partsAtNoPlace();
        partsBelowNought();
        lentFewest();
        lentLeastBits();
        lentNobody();
        lentToTheEmptySet();
        lentNone();
        lentOfNoSet();
        lentAtNoPlace();
        worthLeastAndMost();
        worthOfNobody();
        worthAtNoPlace();
    }

    private static AgesTens newborns(int law, int seats, int many) {
        return Edge.of(law, seats, new int[many]);
    }

    private static AgesTens eight() {
        return newborns(0, 8, 8);
    }

    // ---- promise 12

    private static void companiesOfAnyNumber() {
        Edge.told(Edge.TERMS, "COMPANIES of k (0: of any number) that MAY on a DAY at a GATE");
        Edge.looks(EdgesOfCompanies::eight, "of any number", x -> x.can(0, DAY, 0, -1), 255);
        Edge.looks(() -> newborns(0, 1, 8), "of any number, one SEAT", x -> x.can(0, DAY, 0, -1), 8);
        Edge.looks(() -> newborns(0, 7, 8), "of any number, seven SEATS", x -> x.can(0, DAY, 0, -1), 254);
        Edge.looks(() -> newborns(3, 8, 8), "of any number, UNLIKE", x -> x.can(0, DAY, 0, -1), 8);
    }

    private static void companiesOfK() {
        Edge.told(Edge.TERMS, "COMPANIES of k");
        int[] many = {255, 8, 28, 56, 70, 56, 28, 8, 1};
        for (int k = 0; k <= 8; k++) {
            int size = k;
            Edge.looks(EdgesOfCompanies::eight, "of " + k, x -> x.can(0, DAY, size, -1), many[k]);
        }
    }

    private static void theIthByBits() {
        Edge.told(Edge.TERMS, "how many, the i-th (by bits)");
        AgesTens any = eight();
        for (int i = 0; i < 255; i++) {
            Edge.due("the " + i + "-th of any number", any.can(0, DAY, 0, i), i + 1);
        }
        AgesTens x = eight();
        int i = 0;
        for (int company = 1; company <= 255; company++) {
            if (Integer.bitCount(company) == 3) {
                Edge.due("the " + i + "-th of three", x.can(0, DAY, 3, i), company);
                i++;
            }
        }
        Edge.due("the only one of eight", x.can(0, DAY, 8, 0), 255);
    }

    private static void canHowMany() {
        Edge.told(12, "how many COMPANIES (i = NONE)");
        Edge.looks(() -> Edge.of(0, 8, 1), "none MAY", x -> x.can(0, DAY, 0, AgesTens.NONE), 0);
        Edge.looks(() -> Edge.of(0, 8, 10), "one MAY", x -> x.can(0, DAY, 0, AgesTens.NONE), 1);
        Edge.looks(() -> Edge.of(0, 8, 10), "more than there are PEOPLE", x -> x.can(0, DAY, 8, -1), 0);
        Edge.looks(() -> Edge.of(0, 1, 10, 10), "more than SEATS", x -> x.can(0, DAY, 2, -1), 0);
    }

    private static void canNotSoMany() {
        Edge.told(12, "-5: not so many.");
        Edge.looks(EdgesOfCompanies::eight, "the last of 255", x -> x.can(0, DAY, 0, 254), 255);
        Edge.looks(EdgesOfCompanies::eight, "one behind the last", x -> x.can(0, DAY, 0, 255), -5);
        Edge.looks(EdgesOfCompanies::eight, "the last of 8", x -> x.can(0, DAY, 1, 7), 128);
        Edge.looks(EdgesOfCompanies::eight, "one behind it", x -> x.can(0, DAY, 1, 8), -5);
        Edge.looks(EdgesOfCompanies::eight, "far behind", x -> x.can(0, DAY, 0, Integer.MAX_VALUE), -5);
        Edge.looks(() -> Edge.of(0, 8, 1), "the first of none", x -> x.can(0, DAY, 0, 0), -5);
    }

    private static void canAtNoPlace() {
        Edge.told(12, "WHO CAN");
        Edge.range(Edge::busy, "can n 73000 1 -1", (x, n) -> x.can(n, DAY, 1, -1), 0, 2, 1, 3, -10);
        Edge.range(Edge::brimful, "can n 73000 1 0", (x, n) -> x.can(n, DAY, 1, 0), 0, 1, 3, 1, -10);
        Edge.range(EdgesOfCompanies::eight, "can 0 n 0 -1", (x, n) -> x.can(0, n, 0, -1), 0, 0, Edge.LAST_DAY,
            255, -10);
    }

    private static void canOfNoNumber() {
        Edge.told(12, "BAD: -10");
        Edge.range(EdgesOfCompanies::eight, "can 0 73000 n -1", (x, n) -> x.can(0, DAY, n, -1), 0, 255, 8, 1, -10);
    }

    private static void canBelowNone() {
        Edge.told(12, "i below -1, too.");
        Edge.takes(EdgesOfCompanies::eight, "i = -1", x -> x.can(0, DAY, 0, -1), 255);
        Edge.badAs(-10, EdgesOfCompanies::eight, "i = -2", x -> x.can(0, DAY, 0, -2));
        Edge.badAs(-10, EdgesOfCompanies::eight, "the least i", x -> x.can(0, DAY, 0, Integer.MIN_VALUE));
    }

    private static void canOfNobody() {
        Edge.told(12, "how many COMPANIES (i = NONE), the i-th (bits). -5");
        Edge.looks(() -> Edge.of(0, 8), "how many, of no PEOPLE", x -> x.can(0, DAY, 0, -1), 0);
        Edge.looks(() -> Edge.of(0, 8), "the first, of no PEOPLE", x -> x.can(0, DAY, 0, 0), -5);
    }

    // ---- promise 13

    private static void over(AgesTens x, int set, int left, int companies, int who) {
        Edge.due("left of " + set, x.over(set, 0, DAY, 0), left);
        Edge.due("COMPANIES of " + set, x.over(set, 0, DAY, 1), companies);
        Edge.due("who is left of " + set, x.over(set, 0, DAY, 2), who);
    }

    private static void overFewestLeft() {
        Edge.told(Edge.TERMS, "the fewest who are left");
        over(Edge.of(0, 8, 1), 1, 1, 0, 1);
        over(Edge.of(0, 8, 10), 1, 0, 1, 0);
        over(Edge.of(0, 8, 1, 1, 1, 1, 1, 1, 1, 1), 255, 8, 0, 255);
        over(Edge.of(0, 2, 1, 9, 1, 9, 1, 9, 1, 9), 255, 0, 4, 0);
        over(Edge.of(0, 2, 9, 1, 2, 8, 3), 31, 1, 2, 16);
        over(Edge.of(0, 2, 3, 9, 1, 2, 8), 31, 1, 2, 1);
    }

    private static void overThenFewestCompanies() {
        Edge.told(Edge.TERMS, "then the fewest COMPANIES");
        over(eight(), 255, 0, 1, 0);
        over(newborns(0, 7, 8), 255, 0, 2, 0);
        over(newborns(0, 4, 8), 255, 0, 2, 0);
        over(newborns(0, 3, 8), 255, 0, 3, 0);
        over(newborns(0, 1, 8), 255, 0, 8, 0);
        over(newborns(3, 8, 8), 255, 0, 8, 0);
    }

    private static void overEachInOneAtMost() {
        Edge.told(Edge.TERMS, "PEOPLE of a set put into COMPANIES that MAY (each in one at most)");
        over(Edge.of(0, 2, 5, 5, 5), 7, 1, 1, 4);
        over(Edge.of(0, 2, 4, 6, 4), 7, 1, 1, 4);
        AgesTens x = Edge.of(0, 2, 5, 5, 5);
        over(x, 6, 0, 1, 0);
        over(x, 4, 1, 0, 4);
        over(x, 3, 0, 1, 0);
    }

    private static void overOfTheEmptySet() {
        Edge.told(13, "how many are left (0), how many COMPANIES (1), who is left by PARTS (2, bits)");
        for (int what = 0; what <= 2; what++) {
            int w = what;
            Edge.looks(Edge::busy, "over 0 0 73000 " + w, x -> x.over(0, 0, DAY, w), 0);
            Edge.looks(() -> Edge.of(0, 1), "of no PEOPLE, " + w, x -> x.over(0, 0, DAY, w), 0);
        }
    }

    private static void overOfNoSet() {
        Edge.told(13, "BAD.");
        Edge.range(Edge::busy, "over n 1 73000 1", (x, n) -> x.over(n, 1, DAY, 1), 0, 0, 31, 2, -2);
        Edge.range(EdgesOfCompanies::eight, "over n 0 73000 1", (x, n) -> x.over(n, 0, DAY, 1), 0, 0, 255, 1, -2);
        Edge.range(() -> Edge.of(0, 1), "of no PEOPLE: over n 0 73000 1", (x, n) -> x.over(n, 0, DAY, 1), 0, 0, 0,
            0, -2);
    }

    private static void overAtNoPlace() {
        Edge.told(13, "OVER");
        Edge.range(Edge::busy, "over 8 n 73000 0", (x, n) -> x.over(8, n, DAY, 0), 0, 0, 1, 0, -2);
        Edge.range(Edge::brimful, "over 1 n 73000 1", (x, n) -> x.over(1, n, DAY, 1), 0, 1, 3, 1, -2);
        Edge.range(Edge::busy, "over 16 0 n 0", (x, n) -> x.over(16, 0, n, 0), 0, 1, Edge.LAST_DAY, 0, -2);
    }

    private static void overOfNoWhat() {
        Edge.told(13, "who is left by PARTS (2, bits). BAD.");
        Edge.range(() -> Edge.of(0, 8, 1, 2), "over 2 0 73000 n", (x, n) -> x.over(2, 0, DAY, n), 0, 1, 2, 2, -2);
    }

    // ---- promise 14

    private static void parts(AgesTens x, int set, int... companies) {
        for (int i = 0; i < companies.length; i++) {
            Edge.due("COMPANY " + i + " of " + set, x.parts(set, 0, DAY, i), companies[i]);
        }
        Edge.due("the one behind the last of " + set, x.parts(set, 0, DAY, companies.length), -5);
    }

    private static void partsOfTheLeastFirst() {
        Edge.told(Edge.TERMS, "PARTS, one by one: the least who is neither left nor in a COMPANY yet");
        parts(Edge.of(0, 2, 5, 10, 5), 7, 0b101, 0b010);
        parts(Edge.of(0, 2, 5, 10, 10, 5), 15, 0b1001, 0b0110);
        parts(Edge.of(0, 2, 3, 5, 10, 5), 15, 0b1010, 0b0100);
    }

    private static void partsInLeastBits() {
        Edge.told(Edge.TERMS, "goes in the COMPANY of the least bits (of those who are neither) by which that can "
            + "still be so");
        parts(newborns(0, 4, 8), 255, 0b00001111, 0b11110000);
        parts(newborns(0, 7, 8), 255, 0b00000001, 0b11111110);
        parts(newborns(0, 3, 8), 255, 0b00000011, 0b00011100, 0b11100000);
        parts(newborns(0, 1, 8), 255, 1, 2, 4, 8, 16, 32, 64, 128);
        parts(eight(), 255, 255);
        parts(Edge.of(0, 2, 1, 9, 1, 9), 15, 0b0011, 0b1100);
        parts(Edge.of(0, 2, 1, 1, 9, 9), 15, 0b0101, 0b1010);
    }

    private static void partsOfThoseLeft() {
        Edge.told(Edge.TERMS, "if there is none, it is left");
        AgesTens x = Edge.of(0, 2, 3, 5, 5, 5);
        parts(x, 15, 0b0110);
        over(x, 15, 2, 1, 0b1001);
        AgesTens lonely = Edge.of(0, 2, 5, 5, 5);
        parts(lonely, 7, 0b011);
        over(lonely, 7, 1, 1, 0b100);
        AgesTens nobody = Edge.of(0, 8, 1, 1, 1);
        parts(nobody, 7);
        over(nobody, 7, 3, 0, 7);
    }

    private static void partsNotSoMany() {
        Edge.told(14, "-5: not so many.");
        Edge.looks(() -> newborns(0, 1, 8), "the 8th", x -> x.parts(255, 0, DAY, 7), 128);
        Edge.looks(() -> newborns(0, 1, 8), "the 9th", x -> x.parts(255, 0, DAY, 8), -5);
        Edge.looks(() -> newborns(0, 1, 8), "far behind", x -> x.parts(255, 0, DAY, Integer.MAX_VALUE), -5);
        Edge.looks(Edge::busy, "of the empty set", x -> x.parts(0, 0, DAY, 0), -5);
        Edge.looks(() -> Edge.of(0, 8), "of no PEOPLE", x -> x.parts(0, 0, DAY, 0), -5);
        Edge.looks(() -> Edge.of(0, 8, 1), "all are left", x -> x.parts(1, 0, DAY, 0), -5);
    }

    private static void partsOfNoSet() {
        Edge.told(14, "COMPANY i (0 on) of PARTS (bits).");
        Edge.range(EdgesOfCompanies::eight, "parts n 0 73000 0", (x, n) -> x.parts(n, 0, DAY, 0), 0, -5, 255, 255,
            -10);
        Edge.range(Edge::busy, "parts n 1 73000 0", (x, n) -> x.parts(n, 1, DAY, 0), 0, -5, 31, 3, -10);
    }

    private static void partsAtNoPlace() {
        Edge.told(14, "BAD: -10");
        Edge.range(Edge::busy, "parts 8 n 73000 0", (x, n) -> x.parts(8, n, DAY, 0), 0, 8, 1, 8, -10);
        Edge.range(Edge::brimful, "parts 1 n 73000 0", (x, n) -> x.parts(1, n, DAY, 0), 0, 1, 3, 1, -10);
        Edge.range(Edge::busy, "parts 16 0 n 0", (x, n) -> x.parts(16, 0, n, 0), 0, -5, Edge.LAST_DAY, 16, -10);
    }

    private static void partsBelowNought() {
        Edge.told(14, "i below 0, too.");
        Edge.takes(EdgesOfCompanies::eight, "i = 0", x -> x.parts(255, 0, DAY, 0), 255);
        Edge.badAs(-10, EdgesOfCompanies::eight, "i = -1", x -> x.parts(255, 0, DAY, -1));
        Edge.badAs(-10, EdgesOfCompanies::eight, "the least i", x -> x.parts(255, 0, DAY, Integer.MIN_VALUE));
    }

    // ---- promise 15

    private static void lentFewest() {
        Edge.told(Edge.TERMS, "LENT: to a set of PEOPLE the fewest others so that they are a COMPANY that MAY together");
        Edge.looks(() -> Edge.of(0, 8, 1, 3, 3, 3, 9), "one is fewer than three", x -> x.lent(1, 0, DAY), 16);
        Edge.looks(() -> Edge.of(0, 8, 1, 3, 3, 3), "three, if need be", x -> x.lent(1, 0, DAY), 14);
        Edge.looks(() -> Edge.of(0, 3, 1, 3, 3, 3), "SEATS are short", x -> x.lent(1, 0, DAY), -1);
        Edge.looks(() -> Edge.of(0, 8, 3, 1, 1, 1, 1, 1, 1, 1), "all seven others", x -> x.lent(1, 0, DAY), 254);
    }

    private static void lentLeastBits() {
        Edge.told(Edge.TERMS, "of like ones the least bits");
        Edge.looks(() -> Edge.of(0, 8, 9, 9, 1, 9), "the first of two", x -> x.lent(4, 0, DAY), 1);
        Edge.looks(() -> Edge.of(0, 8, 1, 2, 7, 3, 6), "2 and 7 are ahead of 3 and 6", x -> x.lent(1, 0, DAY), 6);
        Edge.looks(() -> Edge.of(0, 8, 1, 3, 2, 6, 7), "3 and 6 are ahead of 2 and 7", x -> x.lent(1, 0, DAY), 10);
    }

    private static void lentNobody() {
        Edge.told(15, "LENT, as bits.");
        Edge.looks(() -> Edge.of(0, 8, 10, 0), "none are needed", x -> x.lent(1, 0, DAY), 0);
        Edge.looks(EdgesOfCompanies::eight, "all are in it", x -> x.lent(255, 0, DAY), 0);
    }

    private static void lentToTheEmptySet() {
        Edge.told(15, "LENT, as bits. NONE.");
        Edge.looks(() -> Edge.of(0, 8, 5, 10, 5), "a COMPANY is of one at least", x -> x.lent(0, 0, DAY), 2);
        Edge.looks(() -> Edge.of(0, 8, 5, 3, 5), "two, if one can not", x -> x.lent(0, 0, DAY), 5);
        Edge.looks(() -> Edge.of(0, 8, 3, 1, 1, 1, 1, 1, 1, 1), "all eight, if need be", x -> x.lent(0, 0, DAY), 255);
        Edge.looks(() -> Edge.of(0, 8, 5, 3), "no COMPANY MAY", x -> x.lent(0, 0, DAY), -1);
        Edge.looks(() -> Edge.of(0, 8), "of no PEOPLE", x -> x.lent(0, 0, DAY), -1);
    }

    private static void lentNone() {
        Edge.told(15, "NONE.");
        Edge.looks(() -> Edge.of(0, 8, 1, 2), "the LAW", x -> x.lent(1, 0, DAY), AgesTens.NONE);
        Edge.looks(() -> Edge.of(0, 8, 1), "all of them, the LAW", x -> x.lent(1, 0, DAY), AgesTens.NONE);
        Edge.looks(() -> newborns(0, 1, 2), "SEATS", x -> x.lent(3, 0, DAY), AgesTens.NONE);
        Edge.looks(() -> newborns(0, 8, 2), "NOT BORN", x -> x.lent(1, 0, 0), AgesTens.NONE);
    }

    private static void lentOfNoSet() {
        Edge.told(15, "BAD.");
        Edge.range(EdgesOfCompanies::eight, "lent n 0 73000", (x, n) -> x.lent(n, 0, DAY), 0, 1, 255, 0, -2);
        Edge.range(Edge::busy, "lent n 1 73000", (x, n) -> x.lent(n, 1, DAY), 0, 4, 31, -1, -2);
        Edge.range(() -> Edge.of(0, 8), "of no PEOPLE: lent n 0 73000", (x, n) -> x.lent(n, 0, DAY), 0, -1, 0, -1,
            -2);
    }

    private static void lentAtNoPlace() {
        Edge.told(15, "LENT");
        Edge.range(Edge::busy, "lent 8 n 73000", (x, n) -> x.lent(8, n, DAY), 0, 0, 1, 0, -2);
        Edge.range(Edge::brimful, "lent 1 n 73000", (x, n) -> x.lent(1, n, DAY), 0, 0, 3, 0, -2);
        Edge.range(Edge::busy, "lent 16 0 n", (x, n) -> x.lent(16, 0, n), 0, -1, Edge.LAST_DAY, 0, -2);
    }

    // ---- promise 16

    private static void worthLeastAndMost() {
        Edge.told(Edge.TERMS, "how many COMPANIES that MAY have it");
        Edge.looks(EdgesOfCompanies::eight, "the most", x -> x.worth(7, 0, DAY), 128);
        Edge.looks(() -> newborns(0, 1, 8), "alone", x -> x.worth(0, 0, DAY), 1);
        Edge.looks(() -> Edge.of(0, 8, 1, 10), "none", x -> x.worth(0, 0, DAY), 0);
        Edge.looks(EdgesOfCompanies::eight, "NOT BORN", x -> x.worth(0, 0, 0), 0);
    }

    private static void worthOfNobody() {
        Edge.told(16, "WORTH. BAD.");
        Edge.range(EdgesOfCompanies::eight, "worth n 0 73000", (x, n) -> x.worth(n, 0, DAY), 0, 128, 7, 128, -2);
        Edge.range(() -> Edge.of(0, 8, 10, 1), "worth n 0 73000 of two", (x, n) -> x.worth(n, 0, DAY), 0, 1, 1, 0,
            -2);
        Edge.bad(() -> Edge.of(0, 8), "of no PEOPLE", x -> x.worth(0, 0, DAY));
    }

    private static void worthAtNoPlace() {
        Edge.told(16, "WORTH.");
        Edge.range(EdgesOfCompanies::twoGates, "worth 0 n 73000", (x, n) -> x.worth(0, n, DAY), 0, 1, 1, 0, -2);
        Edge.outside(Edge::brimful, "worth 0 n 73000 of four", (x, n) -> x.worth(0, n, DAY), 0, 3, -2);
        Edge.range(EdgesOfCompanies::eight, "worth 0 0 n", (x, n) -> x.worth(0, 0, n), 0, 0, Edge.LAST_DAY, 128, -2);
    }

    private static AgesTens twoGates() {
        AgesTens x = Edge.of(0, 8, 10);
        x.gate(1, 8);
        return x;
    }
}
