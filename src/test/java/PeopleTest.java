/** Promises 4 (person), 5 (gate), 6 (pair), 8 (why). */
public final class PeopleTest {
    public static void main(String[] args) {
        people();
        gates();
        pairs();
        reasonsInTheirOrder();
        laws();
        seats();
        whyRefused();
        Check.end();
    }

    private static void people() {
        AgesTens x = new AgesTens();
        Check.bad(x, "person -1", y -> y.person(-1), -2);
        Check.bad(x, "person 146097", y -> y.person(146097), -2);
        Check.due("the first day", x.person(0), 0);
        Check.due("the last day", x.person(146096), 1);
        for (int p = 2; p < 8; p++) {
            Check.due("person " + p, x.person(1000), p);
            Check.due("people", x.count(0), p + 1);
        }
        Check.full(x, "the 9th", y -> y.person(5));
        Check.bad(x, "the 9th, of no day", y -> y.person(-5), -2);
        Check.due("people stay", x.count(0), 8);
    }

    private static void gates() {
        AgesTens x = new AgesTens();
        int[][] wrong = {{-1, 1}, {5, 1}, {0, 0}, {0, 9}, {0, -1}, {Integer.MIN_VALUE, 3}, {Integer.MAX_VALUE, 3},
            {1, Integer.MIN_VALUE}, {1, Integer.MAX_VALUE}};
        for (int[] w : wrong) {
            Check.bad(x, "gate " + w[0] + " " + w[1], y -> y.gate(w[0], w[1]), -2);
        }
        Check.due("gate 0", x.gate(0, 1), 0);
        Check.due("gate 1", x.gate(4, 8), 1);
        Check.due("gate 2", x.gate(2, 3), 2);
        Check.due("gate 3", x.gate(3, 3), 3);
        Check.full(x, "the 5th", y -> y.gate(1, 1));
        Check.bad(x, "the 5th, of no law", y -> y.gate(5, 1), -2);
        Check.due("gates", x.count(1), 4);
    }

    private static void pairs() {
        AgesTens x = new AgesTens();
        Check.bad(x, "pair without people", y -> y.pair(0, 1, 0), -2);
        x.person(0);
        x.person(0);
        x.person(0);
        int[][] wrong = {{0, 0, 0}, {1, 1, 1}, {0, 3, 0}, {3, 0, 0}, {-1, 0, 0}, {0, -1, 1}, {0, 1, 2}, {0, 1, -1},
            {Integer.MAX_VALUE, 0, 0}, {0, Integer.MIN_VALUE, 0}, {0, 1, Integer.MAX_VALUE}};
        for (int[] w : wrong) {
            Check.bad(x, "pair " + w[0] + " " + w[1] + " " + w[2], y -> y.pair(w[0], w[1], w[2]), -2);
        }
        Check.due("with", x.pair(0, 1, 0), 1);
        Check.no(x, "with again", y -> y.pair(0, 1, 0));
        Check.no(x, "with, the other way", y -> y.pair(1, 0, 0));
        Check.due("apart of the same two", x.pair(1, 0, 1), 1);
        Check.no(x, "apart again", y -> y.pair(0, 1, 1));
        Check.due("another two", x.pair(0, 2, 0), 1);
        Check.bad(x, "BAD is ahead of NO", y -> y.pair(0, 1, 5), -2);
    }

    /** Of two people born 1900 and 1901, one of 2000. */
    private static AgesTens three() {
        AgesTens x = new AgesTens();
        x.person(x.day(1900, 1, 1));
        x.person(x.day(1901, 1, 1));
        x.person(x.day(2000, 1, 1));
        return x;
    }

    private static void reasonsInTheirOrder() {
        AgesTens x = three();
        x.gate(0, 2);
        int early = x.day(1999, 12, 31);
        int late = x.day(2000, 1, 1);
        x.pair(0, 1, 0);
        x.pair(0, 1, 1);
        x.pair(1, 2, 1);
        Check.due("unborn is ahead of all", x.why(7, 0, early), 1);
        Check.due("unborn alone", x.why(4, 0, early), 1);
        Check.due("seats are ahead of apart", x.why(7, 0, late), 2);
        Check.due("with is ahead of apart", x.why(6, 0, late), 3);
        Check.due("with is ahead of the law", x.why(2, 0, late), 3);
        Check.due("apart is ahead of the law", x.why(3, 0, late), 4);
        Check.due("it may", x.why(4, 0, late), 0);
        Check.due("the law", x.why(4, 0, x.day(2001, 1, 1)), 5);
        Check.looks(x, "why only looks", y -> y.why(7, 0, late), 2);
        Check.due("both told: neither goes", x.can(0, x.day(2000, 5, 5), 0, -1), 1);
    }

    private static void laws() {
        AgesTens x = new AgesTens();
        int[] ages = {30, 20, 20, 5, 21, 16, 0, 9};
        for (int a : ages) {
            x.person(x.day(2000 - a, 1, 1));
        }
        int day = x.day(2000, 6, 1);
        x.gate(0, 8);
        x.gate(1, 8);
        x.gate(2, 8);
        x.gate(3, 8);
        AgesTens z = new AgesTens();
        for (int a : ages) {
            z.person(z.day(2000 - a, 1, 1));
        }
        z.gate(4, 8);
        for (int company = 1; company < 256; company++) {
            int years = 0;
            boolean unlike = (company & 6) != 6;
            for (int p = 0; p < 8; p++) {
                years += (company >> p & 1) * ages[p];
            }
            int root = (int) Math.round(Math.sqrt(years));
            Check.due("tens " + company, x.why(company, 0, day), years % 10 == 0 ? 0 : 5);
            Check.due("sevens " + company, x.why(company, 1, day), years % 7 == 0 ? 0 : 5);
            Check.due("squares " + company, x.why(company, 2, day), root * root == years ? 0 : 5);
            Check.due("unlike " + company, x.why(company, 3, day), unlike ? 0 : 5);
            Check.due("tens unlike " + company, z.why(company, 0, day), years % 10 == 0 && unlike ? 0 : 5);
        }
    }

    private static void seats() {
        for (int seats = 1; seats <= 8; seats++) {
            AgesTens x = new AgesTens();
            for (int p = 0; p < 8; p++) {
                x.person(0);
            }
            x.gate(0, seats);
            for (int many = 1; many <= 8; many++) {
                Check.due(many + " on " + seats, x.why((1 << many) - 1, 0, 0), many > seats ? 2 : 0);
            }
        }
        // The most years there are: 8 times 392 is 56 times 56.
        AgesTens x = new AgesTens();
        for (int p = 0; p < 8; p++) {
            x.person(0);
        }
        x.gate(2, 8);
        Check.due("56 times 56", x.why(255, 0, x.day(2192, 1, 1)), 0);
        Check.due("8 times 393", x.why(255, 0, x.day(2193, 1, 1)), 5);
        Check.due("8 times 399", x.why(255, 0, 146096), 5);
    }

    private static void whyRefused() {
        AgesTens x = three();
        x.gate(0, 8);
        int[][] wrong = {{0, 0, 0}, {8, 0, 0}, {-1, 0, 0}, {1, 1, 0}, {1, -1, 0}, {1, 0, -1}, {1, 0, 146097},
            {Integer.MIN_VALUE, 0, 0}, {Integer.MAX_VALUE, 0, 0}, {1, Integer.MIN_VALUE, 0},
            {1, Integer.MAX_VALUE, 0}, {1, 0, Integer.MIN_VALUE}, {1, 0, Integer.MAX_VALUE}};
        for (int[] w : wrong) {
            Check.bad(x, "why " + w[0] + " " + w[1] + " " + w[2], y -> y.why(w[0], w[1], w[2]), -10);
        }
    }
}
