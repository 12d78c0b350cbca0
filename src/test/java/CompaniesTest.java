/** Promises 12 (can), 13 (over), 14 (parts), 15 (lent), 16 (worth). */
public final class CompaniesTest {
    private static final int DAY = 73000;

    public static void main(String[] args) {
        whoCan();
        canRefused();
        overAndParts();
        theFewestLeftAreAheadOfTheFewestCompanies();
        partsTakeTheLeastBits();
        overOfTheUnborn();
        overRefused();
        lending();
        lentRefused();
        worths();
        Check.end();
    }

    /** People of these ages on DAY, and one gate. */
    private static AgesTens of(int law, int seats, int... ages) {
        AgesTens x = new AgesTens();
        for (int age : ages) {
            x.person(x.day(x.date(DAY, 0) - age, 1, 1));
        }
        x.gate(law, seats);
        return x;
    }

    private static void whoCan() {
        AgesTens x = of(0, 3, 3, 7, 10, 13, 20);
        int[] may = {0b100, 0b11, 0b111, 0b1010, 0b1110, 0b10000, 0b10100, 0b10011, 0b11010};
        java.util.Arrays.sort(may);
        Check.looks(x, "how many", y -> y.can(0, DAY, 0, -1), may.length);
        for (int i = 0; i < may.length; i++) {
            int at = i;
            Check.looks(x, "the " + i + "-th", y -> y.can(0, DAY, 0, at), may[at]);
        }
        Check.looks(x, "no more", y -> y.can(0, DAY, 0, may.length), -5);
        Check.looks(x, "far more", y -> y.can(0, DAY, 0, Integer.MAX_VALUE), -5);
        Check.due("of one", x.can(0, DAY, 1, -1), 2);
        Check.due("of one, 1", x.can(0, DAY, 1, 1), 0b10000);
        Check.due("of two", x.can(0, DAY, 2, -1), 3);
        Check.due("of two, 0", x.can(0, DAY, 2, 0), 0b11);
        Check.due("of two, 1", x.can(0, DAY, 2, 1), 0b1010);
        Check.due("of two, 2", x.can(0, DAY, 2, 2), 0b10100);
        Check.due("of two, 3", x.can(0, DAY, 2, 3), -5);
        Check.due("of three", x.can(0, DAY, 3, -1), 4);
        Check.due("of four", x.can(0, DAY, 4, -1), 0);
        Check.due("of eight, of five people", x.can(0, DAY, 8, -1), 0);
        Check.due("of eight, of five people, 0", x.can(0, DAY, 8, 0), -5);
        AgesTens none = new AgesTens();
        none.gate(3, 8);
        Check.due("nobody", none.can(0, 0, 0, -1), 0);
        Check.due("nobody, 0", none.can(0, 0, 0, 0), -5);
        AgesTens all = of(0, 8, 10, 20, 30, 40, 50, 60, 70, 80);
        Check.due("everybody", all.can(0, DAY, 0, -1), 255);
        Check.due("everybody, the last", all.can(0, DAY, 0, 254), 255);
        Check.due("of eight", all.can(0, DAY, 8, 0), 255);
        Check.due("of four", all.can(0, DAY, 4, -1), 70);
    }

    private static void canRefused() {
        AgesTens x = of(0, 3, 3, 7);
        int[][] wrong = {{1, DAY, 0, 0}, {-1, DAY, 0, 0}, {0, -1, 0, 0}, {0, 146097, 0, 0}, {0, DAY, -1, 0},
            {0, DAY, 9, 0}, {0, DAY, 0, -2}, {0, DAY, 0, Integer.MIN_VALUE}, {Integer.MIN_VALUE, DAY, 0, 0},
            {Integer.MAX_VALUE, DAY, 0, 0}, {0, Integer.MIN_VALUE, 0, 0}, {0, Integer.MAX_VALUE, 0, 0},
            {0, DAY, Integer.MIN_VALUE, 0}, {0, DAY, Integer.MAX_VALUE, 0}};
        for (int[] w : wrong) {
            Check.bad(x, "can " + java.util.Arrays.toString(w), y -> y.can(w[0], w[1], w[2], w[3]), -10);
        }
    }

    private static void overIs(String what, AgesTens x, int set, int left, int... companies) {
        Check.looks(x, what + ", left", y -> y.over(set, 0, DAY, 0), Integer.bitCount(left));
        Check.looks(x, what + ", companies", y -> y.over(set, 0, DAY, 1), companies.length);
        Check.looks(x, what + ", who is left", y -> y.over(set, 0, DAY, 2), left);
        for (int i = 0; i < companies.length; i++) {
            int at = i;
            Check.looks(x, what + ", part " + i, y -> y.parts(set, 0, DAY, at), companies[at]);
        }
        Check.looks(x, what + ", no more", y -> y.parts(set, 0, DAY, companies.length), -5);
        Check.looks(x, what + ", far more", y -> y.parts(set, 0, DAY, Integer.MAX_VALUE), -5);
    }

    private static void overAndParts() {
        AgesTens x = of(0, 8, 1, 9, 2, 8, 5);
        overIs("nobody", x, 0, 0);
        overIs("one", x, 1, 1);
        overIs("two", x, 3, 0, 3);
        overIs("all", x, 31, 16, 15);
        AgesTens z = of(0, 2, 1, 9, 2, 8, 5);
        overIs("all by two", z, 31, 16, 3, 12);
        overIs("some by two", z, 0b11101, 0b10001, 0b1100);
        AgesTens w = of(0, 1, 10, 20, 30, 40, 50, 60, 70, 80);
        overIs("all alone", w, 255, 0, 1, 2, 4, 8, 16, 32, 64, 128);
    }

    private static void theFewestLeftAreAheadOfTheFewestCompanies() {
        // One company of three leaves one; none is left by two of two.
        AgesTens x = of(0, 3, 5, 5, 4, 6);
        overIs("two companies", x, 15, 0, 0b11, 0b1100);
        // All in one company is fewer than two.
        AgesTens z = of(0, 4, 5, 5, 4, 6);
        overIs("one company", z, 15, 0, 15);
    }

    private static void partsTakeTheLeastBits() {
        // 0 can go with 1, with 2 or with 3: the least bits first, as the others can go as well.
        AgesTens x = of(0, 2, 5, 5, 5, 5);
        overIs("the least first", x, 15, 0, 3, 12);
        // 0 may go with 1 or 2, but 1 only with 0: nobody is left only if 0 goes with 1 and 2 alone.
        AgesTens z = of(0, 2, 5, 15, 10);
        overIs("alone", z, 7, 0, 3, 4);
        // Of three fives one is left: the least goes, with the least.
        AgesTens w = of(0, 2, 5, 5, 5);
        overIs("the highest is left", w, 7, 4, 3);
        // 0 comes first, though the company of the others has less bits.
        AgesTens r = of(0, 2, 1, 2, 8, 9);
        overIs("0 first", r, 15, 0, 0b1001, 0b110);
        AgesTens v = of(0, 2, 3, 7, 3, 3);
        overIs("the least goes", v, 15, 0b1100, 3);
        // 0 is left though it could go with 1: a company of the others leaves fewer.
        AgesTens u = of(0, 3, 4, 6, 7, 7);
        overIs("three go", u, 15, 1, 0b1110);
        // 0 goes with 2, not with 1 of less bits: so that 1 can go with 3.
        AgesTens t = of(0, 2, 5, 15, 25, 3, 7);
        t.pair(0, 1, 1);
        overIs("not with 1", t, 31, 2, 0b101, 0b11000);
    }

    private static void overOfTheUnborn() {
        AgesTens x = new AgesTens();
        x.person(DAY);
        x.person(DAY + 1);
        x.gate(0, 8);
        overIs("the unborn", x, 3, 2, 1);
    }

    private static void overRefused() {
        AgesTens x = of(0, 3, 3, 7);
        int[][] wrong = {{4, 0, DAY, 0}, {-1, 0, DAY, 0}, {1, 1, DAY, 0}, {1, -1, DAY, 0}, {1, 0, -1, 0},
            {1, 0, 146097, 0}, {1, 0, DAY, -1}, {Integer.MIN_VALUE, 0, DAY, 0}, {Integer.MAX_VALUE, 0, DAY, 0},
            {1, Integer.MIN_VALUE, DAY, 0}, {1, Integer.MAX_VALUE, DAY, 0}, {1, 0, Integer.MIN_VALUE, 0},
            {1, 0, Integer.MAX_VALUE, 0}, {1, 0, DAY, Integer.MIN_VALUE}};
        for (int[] w : wrong) {
            String told = java.util.Arrays.toString(w);
            Check.bad(x, "over " + told, y -> y.over(w[0], w[1], w[2], w[3]), -2);
            Check.bad(x, "parts " + told, y -> y.parts(w[0], w[1], w[2], w[3]), -10);
        }
        Check.bad(x, "over 3", y -> y.over(1, 0, DAY, 3), -2);
        Check.bad(x, "over far", y -> y.over(1, 0, DAY, Integer.MAX_VALUE), -2);
    }

    private static void lending() {
        AgesTens x = of(0, 3, 3, 3, 7, 4, 10);
        Check.looks(x, "one", y -> y.lent(0b1, 0, DAY), 0b100);
        Check.looks(x, "none is needed", y -> y.lent(0b10000, 0, DAY), 0);
        Check.looks(x, "two by one", y -> y.lent(0b11, 0, DAY), 0b1000);
        Check.looks(x, "to nobody, one at least", y -> y.lent(0, 0, DAY), 0b10000);
        Check.looks(x, "none helps", y -> y.lent(0b1100, 0, DAY), -1);
        Check.looks(x, "all", y -> y.lent(0b11111, 0, DAY), -1);
        AgesTens like = of(0, 2, 7, 3, 13, 23);
        Check.due("of like ones the least", like.lent(1, 0, DAY), 2);
        AgesTens fewer = of(0, 3, 5, 2, 3, 15);
        Check.due("fewer are ahead of less bits", fewer.lent(1, 0, DAY), 8);
        AgesTens all = of(0, 8, 1, 1, 1, 1, 1, 1, 1, 3);
        Check.due("eight", all.lent(0, 0, DAY), 255);
        Check.due("seven", all.lent(1, 0, DAY), 254);
        Check.due("the last", all.lent(127, 0, DAY), 128);
        AgesTens tied = of(0, 3, 10, 10, 10);
        tied.pair(0, 2, 0);
        Check.due("with", tied.lent(1, 0, DAY), 4);
        tied.pair(1, 2, 1);
        Check.due("apart", tied.lent(2, 0, DAY), 0);
        Check.due("with and apart", tied.lent(3, 0, DAY), -1);
        AgesTens none = new AgesTens();
        none.gate(0, 1);
        Check.due("nobody there is", none.lent(0, 0, 0), -1);
    }

    private static void lentRefused() {
        AgesTens x = of(0, 3, 3, 7);
        int[][] wrong = {{4, 0, DAY}, {-1, 0, DAY}, {1, 1, DAY}, {1, -1, DAY}, {1, 0, -1}, {1, 0, 146097},
            {Integer.MIN_VALUE, 0, DAY}, {Integer.MAX_VALUE, 0, DAY}, {1, Integer.MAX_VALUE, DAY},
            {1, Integer.MIN_VALUE, DAY}, {1, 0, Integer.MAX_VALUE}, {1, 0, Integer.MIN_VALUE}};
        for (int[] w : wrong) {
            Check.bad(x, "lent " + java.util.Arrays.toString(w), y -> y.lent(w[0], w[1], w[2]), -2);
        }
    }

    private static void worths() {
        AgesTens x = of(0, 3, 3, 7, 10, 13, 20);
        int[] due = {3, 6, 4, 3, 4};
        for (int p = 0; p < due.length; p++) {
            int who = p;
            Check.looks(x, "worth " + p, y -> y.worth(who, 0, DAY), due[p]);
        }
        AgesTens one = of(0, 8, 10);
        Check.due("of itself alone", one.worth(0, 0, DAY), 1);
        int[][] wrong = {{5, 0, DAY}, {-1, 0, DAY}, {1, 1, DAY}, {1, -1, DAY}, {1, 0, -1}, {1, 0, 146097},
            {Integer.MIN_VALUE, 0, DAY}, {Integer.MAX_VALUE, 0, DAY}, {1, Integer.MAX_VALUE, DAY},
            {1, Integer.MIN_VALUE, DAY}, {1, 0, Integer.MAX_VALUE}, {1, 0, Integer.MIN_VALUE}};
        for (int[] w : wrong) {
            Check.bad(x, "worth " + java.util.Arrays.toString(w), y -> y.worth(w[0], w[1], w[2]), -2);
        }
    }
}
