/** Promises 23 (passing), 24 (forget), 25 (liars), 26 (fits), 27 (untold), 28 (part). */
public final class UntoldTest {
    public static void main(String[] args) {
        passings();
        passingRefused();
        liars();
        fitsOfOne();
        fitsWithLiars();
        againstAllWays();
        fitsRefused();
        shares();
        untoldRefused();
        Check.end();
    }

    private static void passings() {
        AgesTens x = new AgesTens();
        Check.due("none to forget", x.forget(), 0);
        for (int j = 0; j < 10; j++) {
            Check.due("passing " + j, x.passing(1 + 3 * j, 11 * j, j % 2 == 0), j);
            Check.due("passings", x.count(3), j + 1);
        }
        Check.full(x, "the 11th", y -> y.passing(1, 0, true));
        Check.bad(x, "the 11th, of none", y -> y.passing(0, 0, true), -2);
        x.liars(3);
        x.person(0);
        Check.due("forget", x.forget(), 10);
        Check.due("forget again", x.forget(), 0);
        Check.due("none", x.count(3), 0);
        Check.due("liars stay", x.liars(3), 3);
        Check.due("people stay", x.count(0), 1);
        Check.due("fits all", x.fits(-1), 100000);
        Check.due("from 0 again", x.passing(31, 99, false), 0);
    }

    private static void passingRefused() {
        AgesTens x = new AgesTens();
        int[][] wrong = {{0, 0}, {32, 0}, {-1, 0}, {1, -1}, {1, 100}, {Integer.MIN_VALUE, 0},
            {Integer.MAX_VALUE, 0}, {1, Integer.MIN_VALUE}, {1, Integer.MAX_VALUE}};
        for (int[] w : wrong) {
            Check.bad(x, "passing " + w[0] + " " + w[1], y -> y.passing(w[0], w[1], true), -2);
            Check.bad(x, "not passing " + w[0] + " " + w[1], y -> y.passing(w[0], w[1], false), -2);
        }
    }

    private static void liars() {
        AgesTens x = new AgesTens();
        Check.due("at first", x.liars(3), 0);
        for (int n : new int[] {-1, 4, Integer.MIN_VALUE, Integer.MAX_VALUE}) {
            Check.bad(x, "liars " + n, y -> y.liars(n), -2);
        }
        Check.due("3", x.liars(1), 3);
        Check.due("1", x.liars(0), 1);
    }

    private static void fitsOfOne() {
        AgesTens x = new AgesTens();
        Check.looks(x, "all", y -> y.fits(-1), 100000);
        Check.looks(x, "the 54321-th", y -> y.fits(54321), 54321);
        Check.looks(x, "the last", y -> y.fits(99999), 99999);
        Check.looks(x, "no more", y -> y.fits(100000), -5);
        Check.looks(x, "far more", y -> y.fits(Integer.MAX_VALUE), -5);
        x.passing(0b10000, 97, true);
        Check.looks(x, "the last has 3", y -> y.fits(-1), 10000);
        Check.looks(x, "the first of them", y -> y.fits(0), 3);
        Check.looks(x, "the 12-th", y -> y.fits(12), 123);
        x.forget();
        x.passing(0b1, 97, true);
        Check.looks(x, "the first has 3", y -> y.fits(0), 30000);
        Check.looks(x, "the last of them", y -> y.fits(9999), 39999);
        Check.looks(x, "not so many", y -> y.fits(10000), -5);
        x.forget();
        x.passing(0b1, 97, false);
        Check.looks(x, "the first has not 3", y -> y.fits(-1), 90000);
        Check.looks(x, "over the 3", y -> y.fits(30000), 40000);
        Check.looks(x, "ahead of the 3", y -> y.fits(29999), 29999);
        x.passing(0b1, 97, true);
        Check.looks(x, "none", y -> y.fits(-1), 0);
        Check.looks(x, "none, 0", y -> y.fits(0), -5);
    }

    private static void fitsWithLiars() {
        AgesTens x = new AgesTens();
        x.passing(1, 0, true);
        x.passing(1, 1, true);
        x.passing(1, 2, true);
        x.passing(1, 3, true);
        int[] due = {0, 0, 0, 40000};
        for (int n = 0; n < 4; n++) {
            x.liars(n);
            Check.due("liars " + n, x.fits(-1), due[n]);
        }
        Check.due("0, 9, 8, 7 fit", x.fits(10000), 70000);
        x.passing(2, 0, true);
        Check.due("a fifth", x.fits(-1), 4000);
        Check.due("the first of them", x.fits(0), 0);
        Check.due("the second thousand", x.fits(1000), 70000);
        x.forget();
        x.passing(3, 0, false);
        Check.due("a liar may be told rightly", x.fits(-1), 100000);
        x.liars(0);
        Check.due("none", x.fits(-1), 90000);
    }

    private static void againstAllWays() {
        java.util.Random random = new java.util.Random(26);
        for (int run = 0; run < 60; run++) {
            AgesTens x = new AgesTens();
            int many = 1 + random.nextInt(10);
            int liars = random.nextInt(4);
            int[][] told = new int[many][];
            x.liars(liars);
            for (int j = 0; j < many; j++) {
                told[j] = new int[] {1 + random.nextInt(31), random.nextInt(100), random.nextInt(3) == 0 ? 0 : 1};
                x.passing(told[j][0], told[j][1], told[j][2] == 1);
            }
            checkAllWays("run " + run, x, told, liars);
        }
    }

    private static void checkAllWays(String run, AgesTens x, int[][] told, int liars) {
        int[] fit = new int[100000];
        int many = 0;
        int[][] shares = new int[5][10];
        for (int way = 0; way < 100000; way++) {
            if (wrongs(way, told) <= liars) {
                fit[many++] = way;
                for (int one = 0; one < 5; one++) {
                    shares[one][figure(way, one)]++;
                }
            }
        }
        Check.due(run + ", fits", x.fits(-1), many);
        Check.due(run + ", no more", x.fits(many), -5);
        for (int i = 0; i < many; i += 1 + many / 23) {
            Check.due(run + ", fits " + i, x.fits(i), fit[i]);
        }
        if (many > 0) {
            Check.due(run + ", the last", x.fits(many - 1), fit[many - 1]);
        }
        for (int one = 0; one < 5; one++) {
            for (int r = 0; r < 10; r++) {
                Check.due(run + ", untold " + one + " " + r, x.untold(one, r), many == 0 ? -3 : 1);
                long share = (long) x.part(0) * many;
                Check.due(run + ", share " + one + " " + r, share, many == 0 ? 0 : (long) shares[one][r] * x.part(1));
            }
        }
    }

    private static int figure(int way, int one) {
        return Integer.parseInt(String.format("%05d", way).substring(one, one + 1));
    }

    private static int wrongs(int way, int[][] told) {
        int[] figures = {way / 10000, way / 1000 % 10, way / 100 % 10, way / 10 % 10, way % 10};
        int wrong = 0;
        for (int[] t : told) {
            int years = t[1];
            for (int one = 0; one < 5; one++) {
                years += (t[0] >> one & 1) * figures[one];
            }
            wrong += (years % 10 == 0) == (t[2] == 1) ? 0 : 1;
        }
        return wrong;
    }

    private static void fitsRefused() {
        AgesTens x = new AgesTens();
        Check.bad(x, "fits -2", y -> y.fits(-2), -10);
        Check.bad(x, "fits far", y -> y.fits(Integer.MIN_VALUE), -10);
    }

    private static void fraction(AgesTens x, String what, int above, int below) {
        Check.looks(x, what + ", above", y -> y.part(0), above);
        Check.looks(x, what + ", below", y -> y.part(1), below);
    }

    private static void shares() {
        AgesTens x = new AgesTens();
        fraction(x, "at first", 0, 1);
        Check.due("untold", x.untold(4, 9), 1);
        fraction(x, "a tenth", 1, 10);
        x.passing(1, 0, false);
        Check.due("untold", x.untold(0, 4), 1);
        fraction(x, "a ninth", 1, 9);
        Check.due("untold", x.untold(0, 0), 1);
        fraction(x, "none", 0, 1);
        x.passing(1, 5, true);
        Check.due("untold", x.untold(0, 5), 1);
        fraction(x, "all", 1, 1);
        x.passing(3, 0, false);
        x.passing(3, 1, false);
        x.passing(6, 0, false);
        Check.due("untold", x.untold(2, 0), 1);
        fraction(x, "seven of 72", 7, 72);
        Check.bad(x, "part 2", y -> y.part(2), -2);
        Check.bad(x, "part -1", y -> y.part(-1), -2);
        Check.bad(x, "part far", y -> y.part(Integer.MIN_VALUE), -2);
        Check.bad(x, "part further", y -> y.part(Integer.MAX_VALUE), -2);
    }

    private static void untoldRefused() {
        AgesTens x = new AgesTens();
        x.untold(0, 0);
        int[][] wrong = {{-1, 0}, {5, 0}, {0, -1}, {0, 10}, {Integer.MIN_VALUE, 0}, {Integer.MAX_VALUE, 0},
            {0, Integer.MIN_VALUE}, {0, Integer.MAX_VALUE}};
        for (int[] w : wrong) {
            Check.bad(x, "untold " + w[0] + " " + w[1], y -> y.untold(w[0], w[1]), -2);
        }
        x.passing(1, 1, true);
        x.passing(1, 2, true);
        Check.no(x, "no way fits", y -> y.untold(0, 9));
        Check.bad(x, "BAD is ahead of NO", y -> y.untold(0, 10), -2);
        fraction(x, "it stays", 1, 10);
    }
}
