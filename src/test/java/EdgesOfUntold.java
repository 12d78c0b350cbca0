/** Sentences about UNTOLD, PASSINGS, LIARS, FITS, THE FRACTION, and promises 23 (passing) to 28 (part). */
final class EdgesOfUntold {
    private EdgesOfUntold() { }

    static void run() {
        passingsAsTheyCome();
        passingSet();
        passingKnown();
        passingFull();
        letPass();
        notLetPass();
        knownFromNoughtTo99();
        forgetNone();
        forgetAll();
        liarsAtFirst();
        liarsOutside();
        liarsWhatItWas();
        liarsAtMost();
        liarsOfTen();
        fitsOfAllFive();
        fitsHowMany();
        fitsByFiveFigures();
        fitsByFiguresWithLiars();
        fitsOfWhatIsToldNow();
        fitsNotSoMany();
        fitsBelowNone();
        untoldOne();
        untoldRest();
        untoldNo();
        untoldBadAheadOfNo();
        untoldShare();
        fractionAtFirst();
        fractionInLowestTerms();
        fractionBelowAboveNought();
        partOfNoWhat();
    }

    /** A passing: its set, KNOWN, let (1, 0). */
    private static AgesTens told(int liars, int[]... passings) {
        AgesTens x = new AgesTens();
        x.liars(liars);
        for (int[] p : passings) {
            x.passing(p[0], p[1], p[2] == 1);
        }
        return x;
    }

    /** So many times one passing told both ways: whatever the ages are, one of each two is wrong. */
    private static AgesTens bothWays(int liars, int many) {
        AgesTens x = told(liars);
        for (int i = 0; i < many; i++) {
            x.passing(1 + i, i, true);
            x.passing(1 + i, i, false);
        }
        return x;
    }

    // ---- promise 23

    private static void passingsAsTheyCome() {
        Edge.told(Edge.TERMS, "PASSINGS 0 .. 9, as they come");
        AgesTens x = new AgesTens();
        for (int j = 0; j <= 9; j++) {
            Edge.due("passing " + j, x.passing(31, j, true), j);
            Edge.due("how many there are", x.count(3), j + 1);
        }
    }

    private static void passingSet() {
        Edge.told(Edge.TERMS, "a set of UNTOLD (bits, one at least)");
        Edge.range(Edge::busy, "passing n 5 true", (x, n) -> x.passing(n, 5, true), 1, 3, 31, 3, -2);
        Edge.range(Edge::empty, "passing n 0 false", (x, n) -> x.passing(n, 0, false), 1, 0, 31, 0, -2);
        Edge.bad(Edge::busy, "nobody", x -> x.passing(0, 0, true));
        Edge.bad(Edge::busy, "a sixth", x -> x.passing(32, 0, true));
        Edge.bad(Edge::busy, "one and a sixth", x -> x.passing(33, 0, true));
    }

    private static void passingKnown() {
        Edge.told(Edge.TERMS, "KNOWN years (0 .. 99) besides");
        Edge.range(Edge::busy, "passing 1 n false", (x, n) -> x.passing(1, n, false), 0, 3, 99, 3, -2);
        Edge.range(Edge::empty, "passing 31 n true", (x, n) -> x.passing(31, n, true), 0, 0, 99, 0, -2);
    }

    private static void passingFull() {
        Edge.told(23, "A PASSING: its number. BAD; FULL: 10.");
        AgesTens nine = told(0);
        for (int j = 0; j < 9; j++) {
            nine.passing(1, j, false);
        }
        Edge.due("the 10th", nine.passing(1, 9, false), 9);
        Edge.due("the 11th", nine.passing(1, 9, false), -4);
        Edge.full(Edge::brimful, "the 11th", x -> x.passing(31, 99, true));
        Edge.full(Edge::brimful, "the 11th, of the least numbers", x -> x.passing(1, 0, false));
        Edge.outside(Edge::brimful, "BAD is ahead of FULL: passing n 0 true", (x, n) -> x.passing(n, 0, true), 1, 31,
            -2);
        Edge.outside(Edge::brimful, "BAD is ahead of FULL: passing 1 n true", (x, n) -> x.passing(1, n, true), 0, 99,
            -2);
    }

    private static void letPass() {
        Edge.told(Edge.TERMS, "it was let pass: 10 divides all together");
        for (int r = 0; r <= 9; r++) {
            AgesTens x = told(0, new int[] {1, r, 1});
            Edge.due("how many, with " + r, x.fits(-1), 10000);
            Edge.due("the first", x.fits(0), (10 - r) % 10 * 10000);
        }
        Edge.due("of all five", told(0, new int[] {31, 0, 1}).fits(-1), 10000);
        Edge.due("all five, the first", told(0, new int[] {31, 1, 1}).fits(0), 9);
        Edge.due("all five, the last", told(0, new int[] {31, 1, 1}).fits(9999), 99993);
    }

    private static void notLetPass() {
        Edge.told(Edge.TERMS, "or not let pass: not");
        for (int r = 0; r <= 9; r++) {
            int needed = (10 - r) % 10;
            AgesTens x = told(0, new int[] {1, r, 0});
            Edge.due("how many, with " + r, x.fits(-1), 90000);
            Edge.due("the first", x.fits(0), needed == 0 ? 10000 : 0);
            Edge.due("the last", x.fits(89999), needed == 9 ? 89999 : 99999);
        }
        Edge.due("of all five", told(0, new int[] {31, 0, 0}).fits(-1), 90000);
        Edge.due("all five, the first", told(0, new int[] {31, 0, 0}).fits(0), 1);
    }

    private static void knownFromNoughtTo99() {
        Edge.told(Edge.TERMS, "KNOWN years (0 .. 99)");
        for (int known = 0; known <= 99; known++) {
            AgesTens x = told(0, new int[] {16, known, 1});
            Edge.due("with " + known, x.fits(0), (100 - known) % 10);
        }
    }

    // ---- promise 24

    private static void forgetNone() {
        Edge.told(24, "No PASSINGS: how many there were.");
        Edge.looks(Edge::empty, "none", x -> x.forget(), 0);
        AgesTens x = Edge.busy();
        x.forget();
        Edge.due("again", x.forget(), 0);
    }

    private static void forgetAll() {
        Edge.told(24, "how many there were");
        AgesTens x = Edge.brimful();
        Edge.due("ten", x.forget(), 10);
        Edge.due("none are left", x.count(3), 0);
        Edge.due("all ways fit", x.fits(-1), 100000);
        Edge.due("LIARS stay", x.liars(0), 3);
        Edge.due("the next is the first", x.passing(1, 0, true), 0);
        Edge.due("and alone", x.fits(-1), 10000);
    }

    // ---- promise 25

    private static void liarsAtFirst() {
        Edge.told(Edge.TERMS, "at most so many (0 .. 3; 0 at first)");
        Edge.takes(Edge::empty, "at first", x -> x.liars(3), 0);
    }

    private static void liarsOutside() {
        Edge.told(25, "BAD.");
        Edge.range(Edge::busy, "liars n", (x, n) -> x.liars(n), 0, 1, 3, 1, -2);
        Edge.range(Edge::brimful, "liars n of 3", (x, n) -> x.liars(n), 0, 3, 3, 3, -2);
    }

    private static void liarsWhatItWas() {
        Edge.told(25, "LIARS: what it was.");
        AgesTens x = new AgesTens();
        Edge.due("0", x.liars(3), 0);
        Edge.due("3", x.liars(4), -2);
        Edge.due("3 stay", x.liars(1), 3);
        Edge.due("1", x.liars(0), 1);
        Edge.looks(Edge::brimful, "as many as there are", y -> y.liars(3), 3);
    }

    private static void liarsAtMost() {
        Edge.told(Edge.TERMS, "so that no more than LIARS PASSINGS do not fit");
        for (int wrong = 0; wrong <= 5; wrong++) {
            for (int liars = 0; liars <= 3; liars++) {
                AgesTens x = bothWays(liars, wrong);
                Edge.due(wrong + " wrong, LIARS " + liars, x.fits(-1), wrong <= liars ? 100000 : 0);
            }
        }
        int[] choose = {1, 45, 810, 7290};
        for (int liars = 0; liars <= 3; liars++) {
            AgesTens x = told(liars, new int[] {1, 0, 1}, new int[] {2, 0, 1}, new int[] {4, 0, 1},
                new int[] {8, 0, 1}, new int[] {16, 0, 1});
            int due = choose[0] + (liars > 0 ? choose[1] : 0) + (liars > 1 ? choose[2] : 0)
                + (liars > 2 ? choose[3] : 0);
            Edge.due("five of 0, LIARS " + liars, x.fits(-1), due);
        }
    }

    private static void liarsOfTen() {
        Edge.told(Edge.TERMS, "LIARS: at most so many (0 .. 3; 0 at first) of them are told wrongly");
        for (int liars = 0; liars <= 3; liars++) {
            AgesTens x = told(liars);
            for (int known = 0; known <= 9; known++) {
                x.passing(1, known, false);
            }
            Edge.due("ten of which one is wrong, LIARS " + liars, x.fits(-1), liars == 0 ? 0 : 100000);
            AgesTens y = told(liars);
            for (int j = 0; j <= 9; j++) {
                y.passing(1, j < 7 ? 0 : 5, true);
            }
            Edge.due("seven and three, LIARS " + liars, y.fits(-1), liars == 3 ? 10000 : 0);
        }
    }

    // ---- promise 26

    private static void fitsOfAllFive() {
        Edge.told(Edge.TERMS, "all ways to give what is over ten to each of all five");
        Edge.looks(Edge::empty, "nothing is told", x -> x.fits(-1), 100000);
        Edge.looks(() -> told(3, new int[] {1, 0, 1}, new int[] {2, 0, 1}, new int[] {4, 0, 1}), "as many LIARS as "
            + "PASSINGS", x -> x.fits(-1), 100000);
        Edge.looks(() -> told(0, new int[] {1, 0, 1}, new int[] {2, 0, 1}, new int[] {4, 0, 1}, new int[] {8, 0, 1},
            new int[] {16, 0, 1}), "one way alone", x -> x.fits(-1), 1);
    }

    private static void fitsHowMany() {
        Edge.told(26, "FITS: how many (i = NONE)");
        Edge.looks(() -> bothWays(0, 1), "none", x -> x.fits(AgesTens.NONE), 0);
        Edge.looks(Edge::empty, "all", x -> x.fits(AgesTens.NONE), 100000);
    }

    private static void fitsByFiveFigures() {
        Edge.told(Edge.TERMS, "the i-th (by its five figures, UNTOLD 0 the highest)");
        AgesTens all = new AgesTens();
        int[] some = {0, 1, 9, 10, 99, 100, 999, 1000, 9999, 10000, 12345, 98765, 99998, 99999};
        for (int i : some) {
            Edge.due("the " + i + "-th of all", all.fits(i), i);
        }
        AgesTens highest = told(0, new int[] {1, 3, 1});
        Edge.due("UNTOLD 0 has 7, the first", highest.fits(0), 70000);
        Edge.due("the second", highest.fits(1), 70001);
        Edge.due("the last", highest.fits(9999), 79999);
        AgesTens lowest = told(0, new int[] {16, 3, 1});
        Edge.due("UNTOLD 4 has 7, the first", lowest.fits(0), 7);
        Edge.due("the second", lowest.fits(1), 17);
        Edge.due("the last", lowest.fits(9999), 99997);
        AgesTens middle = told(0, new int[] {4, 3, 0});
        Edge.due("UNTOLD 2 has not 7, the last ahead", middle.fits(699), 699);
        Edge.due("the first behind", middle.fits(700), 800);
        Edge.due("the last", middle.fits(89999), 99999);
    }

    private static void fitsByFiguresWithLiars() {
        Edge.told(26, "the i-th as a number of five figures");
        AgesTens x = told(1, new int[] {1, 0, 1}, new int[] {2, 0, 1});
        Edge.due("the last of 0 ahead", x.fits(9999), 9999);
        Edge.due("the first of 1 ahead, where the next must be 0", x.fits(10000), 10000);
        Edge.due("the last of them", x.fits(10999), 10999);
        Edge.due("the first of 2 ahead", x.fits(11000), 20000);
        Edge.due("the last of all", x.fits(18999), 90999);
        Edge.due("the one behind it", x.fits(19000), -5);
        Edge.due("how many", x.fits(-1), 19000);
        AgesTens y = told(1, new int[] {1, 0, 1}, new int[] {2, 5, 1});
        Edge.due("the first of 1 ahead, where the next must be 5", y.fits(10000), 15000);
        Edge.due("the first of 2 ahead", y.fits(11000), 25000);
        Edge.due("the last of all", y.fits(18999), 95999);
    }

    private static void fitsOfWhatIsToldNow() {
        Edge.told(26, "FITS");
        AgesTens x = new AgesTens();
        Edge.due("nothing is told", x.fits(-1), 100000);
        x.passing(1, 0, true);
        Edge.due("a PASSING", x.fits(-1), 10000);
        x.image(0);
        x.passing(2, 0, false);
        Edge.due("another", x.fits(-1), 9000);
        x.liars(1);
        Edge.due("LIARS 1", x.fits(-1), 91000);
        x.from(0);
        Edge.due("from an IMAGE", x.fits(-1), 10000);
        Edge.due("its last", x.fits(9999), 9999);
        x.forget();
        Edge.due("all is forgotten", x.fits(-1), 100000);
        Edge.due("one between", x.fits(54321), 54321);
        Edge.due("the last", x.fits(99999), 99999);
        x.untold(0, 5);
        Edge.due("one between, behind a share", x.fits(98765), 98765);
        x.untold(3, 0);
        Edge.due("another", x.fits(12), 12);
        Edge.due("how many, behind a share", x.fits(-1), 100000);
    }

    private static void fitsNotSoMany() {
        Edge.told(26, "-5: not so many.");
        Edge.looks(Edge::empty, "the last of all", x -> x.fits(99999), 99999);
        Edge.looks(Edge::empty, "the one behind it", x -> x.fits(100000), -5);
        Edge.looks(Edge::empty, "far behind", x -> x.fits(Integer.MAX_VALUE), -5);
        Edge.looks(() -> bothWays(0, 1), "the first of none", x -> x.fits(0), -5);
        Edge.looks(() -> told(0, new int[] {1, 0, 1}), "the last of 10000", x -> x.fits(9999), 9999);
        Edge.looks(() -> told(0, new int[] {1, 0, 1}), "the one behind it", x -> x.fits(10000), -5);
    }

    private static void fitsBelowNone() {
        Edge.told(26, "BAD: -10: i below -1, too.");
        Edge.takes(Edge::busy, "i = -1", x -> x.fits(-1), Edge.busy().fits(-1));
        Edge.badAs(-10, Edge::busy, "i = -2", x -> x.fits(-2));
        Edge.badAs(-10, Edge::busy, "the least i", x -> x.fits(Integer.MIN_VALUE));
        Edge.badAs(-10, () -> bothWays(0, 1), "i = -2, no FITS", x -> x.fits(-2));
    }

    // ---- promise 27

    private static void untoldOne() {
        Edge.told(Edge.TERMS, "UNTOLD 0 .. 4");
        Edge.range(Edge::empty, "untold n 0", (x, n) -> x.untold(n, 0), 0, 1, 4, 1, -2);
        Edge.range(Edge::busy, "untold n 5", (x, n) -> x.untold(n, 5), 0, 1, 4, 1, -2);
    }

    private static void untoldRest() {
        Edge.told(Edge.TERMS, "people of whom nothing is told but what is over ten (0 .. 9, alike likely)");
        Edge.range(Edge::empty, "untold 0 n", (x, n) -> x.untold(0, n), 0, 1, 9, 1, -2);
        Edge.range(Edge::busy, "untold 4 n", (x, n) -> x.untold(4, n), 0, 1, 9, 1, -2);
        for (int one = 0; one <= 4; one++) {
            for (int r = 0; r <= 9; r++) {
                fraction(new AgesTens(), one, r, 1, 10);
            }
        }
    }

    private static AgesTens nothingFits() {
        AgesTens x = Edge.busy();
        x.forget();
        x.liars(0);
        x.passing(1, 0, true);
        x.passing(1, 0, false);
        return x;
    }

    private static void untoldNo() {
        Edge.told(Edge.TERMS, "the share in which one UNTOLD has r (NO: none)");
        Edge.no(EdgesOfUntold::nothingFits, "the least numbers", x -> x.untold(0, 0));
        Edge.no(EdgesOfUntold::nothingFits, "the greatest", x -> x.untold(4, 9));
        AgesTens x = nothingFits();
        x.untold(0, 0);
        Edge.due("THE FRACTION stays, above", x.part(0), 1);
        Edge.due("THE FRACTION stays, below", x.part(1), 10);
        Edge.takes(() -> told(0, new int[] {1, 3, 1}), "one FIT at least, of r none", y -> y.untold(0, 0), 1);
        Edge.takes(() -> bothWays(3, 3), "three wrong of LIARS 3", y -> y.untold(0, 0), 1);
        Edge.no(() -> bothWays(3, 4), "four wrong of LIARS 3", y -> y.untold(0, 0));
    }

    private static void untoldBadAheadOfNo() {
        Edge.told(27, "BAD; NO.");
        Edge.outside(EdgesOfUntold::nothingFits, "untold n 0", (x, n) -> x.untold(n, 0), 0, 4, -2);
        Edge.outside(EdgesOfUntold::nothingFits, "untold 0 n", (x, n) -> x.untold(0, n), 0, 9, -2);
    }

    private static void fraction(AgesTens x, int one, int r, int above, int below) {
        String call = "untold " + one + " " + r;
        Edge.due(call, x.untold(one, r), 1);
        Edge.due(call + ", above", x.part(0), above);
        Edge.due(call + ", below", x.part(1), below);
    }

    private static void untoldShare() {
        Edge.told(27, "The share of FITS in which one UNTOLD has r over ten is THE FRACTION: 1.");
        fraction(told(0, new int[] {1, 3, 1}), 0, 7, 1, 1);
        fraction(told(0, new int[] {1, 3, 1}), 0, 6, 0, 1);
        fraction(told(0, new int[] {1, 3, 1}), 4, 6, 1, 10);
        fraction(told(0, new int[] {16, 3, 0}), 4, 6, 1, 9);
        fraction(told(0, new int[] {16, 3, 0}), 4, 7, 0, 1);
        fraction(told(1, new int[] {1, 0, 1}, new int[] {2, 0, 1}), 0, 0, 10, 19);
        fraction(told(1, new int[] {1, 0, 1}, new int[] {2, 0, 1}), 1, 9, 1, 19);
    }

    private static void fractionAtFirst() {
        Edge.told(Edge.TERMS, "THE FRACTION is 0 by 1 at first");
        Edge.looks(Edge::empty, "above", x -> x.part(0), 0);
        Edge.looks(Edge::empty, "below", x -> x.part(1), 1);
    }

    private static void fractionInLowestTerms() {
        Edge.told(Edge.TERMS, "lowest terms");
        fraction(new AgesTens(), 0, 0, 1, 10);
        fraction(told(0, new int[] {1, 0, 0}, new int[] {1, 5, 0}), 0, 1, 1, 8);
        fraction(told(1, new int[] {1, 0, 1}, new int[] {1, 5, 1}), 0, 5, 1, 2);
        fraction(told(0, new int[] {31, 0, 1}), 2, 4, 1, 10);
        fraction(told(0, new int[] {1, 0, 1}, new int[] {2, 0, 1}, new int[] {4, 0, 1}, new int[] {8, 0, 1},
            new int[] {16, 0, 1}), 3, 0, 1, 1);
        fraction(told(3, new int[] {1, 0, 1}, new int[] {2, 0, 1}, new int[] {4, 0, 1}, new int[] {8, 0, 1},
            new int[] {16, 0, 1}), 0, 0, 3439, 8146);
    }

    private static void fractionBelowAboveNought() {
        Edge.told(Edge.TERMS, "below above 0");
        AgesTens x = told(0, new int[] {1, 3, 1});
        fraction(x, 0, 7, 1, 1);
        fraction(x, 0, 0, 0, 1);
        fraction(x, 1, 0, 1, 10);
        fraction(x, 0, 1, 0, 1);
    }

    // ---- promise 28

    private static void partOfNoWhat() {
        Edge.told(28, "THE FRACTION: above (0), below (1). BAD.");
        Edge.range(Edge::empty, "part n at first", (x, n) -> x.part(n), 0, 0, 1, 1, -2);
        Edge.range(Edge::busy, "part n", (x, n) -> x.part(n), 0, 1, 1, 10, -2);
    }
}
