import java.math.BigInteger;
import java.util.Arrays;

/** Sentences about CROWDS, TENS, FEWEST TO SPARE, and promises 20 (crowd), 21 (tens), 22 (spare). */
final class EdgesOfCrowds {
    private EdgesOfCrowds() { }

    static void run() {
        crowdsAtFirst();
        crowdRests();
        crowdHowMany();
        crowdWhatItWas();
        tensOfTheEmptySet();
        tensOfKOutside();
        tensBeyondAll();
        tensOfLikeRests();
        tensOfAll();
        tensOfAllByRest();
        spareNobody();
        spareAll();
        spareFewest();
        spareOfAllCrowds();
    }

    /** Crowds of so many, of what is over ten 0, 1, .. . */
    private static AgesTens crowds(int... many) {
        AgesTens x = new AgesTens();
        for (int r = 0; r < many.length; r++) {
            x.crowd(r, many[r]);
        }
        return x;
    }

    private static AgesTens sixty() {
        return crowds(6, 6, 6, 6, 6, 6, 6, 6, 6, 6);
    }

    // ---- promise 20

    private static void crowdsAtFirst() {
        Edge.told(Edge.TERMS, "(0 .. 6; 0 at first)");
        for (int r = 0; r <= 9; r++) {
            int rest = r;
            Edge.takes(Edge::empty, "crowd " + r, x -> x.crowd(rest, 6), 0);
        }
    }

    private static void crowdRests() {
        Edge.told(Edge.TERMS, "of what is over ten r (0 .. 9)");
        Edge.range(Edge::busy, "crowd n 1", (x, n) -> x.crowd(n, 1), 0, 2, 9, 0, -2);
        Edge.range(Edge::brimful, "crowd n 0", (x, n) -> x.crowd(n, 0), 0, 6, 9, 6, -2);
    }

    private static void crowdHowMany() {
        Edge.told(Edge.TERMS, "there are so many PEOPLE (0 .. 6");
        Edge.range(Edge::busy, "crowd 3 n", (x, n) -> x.crowd(3, n), 0, 6, 6, 6, -2);
        Edge.range(Edge::empty, "crowd 9 n", (x, n) -> x.crowd(9, n), 0, 0, 6, 0, -2);
    }

    private static void crowdWhatItWas() {
        Edge.told(20, "How many with r over ten there are: what it was. BAD.");
        AgesTens x = new AgesTens();
        Edge.due("at first", x.crowd(9, 6), 0);
        Edge.due("then", x.crowd(9, 0), 6);
        Edge.due("at last", x.crowd(9, 3), 0);
        Edge.due("one that is refused", x.crowd(9, 7), -2);
        Edge.due("changes nothing", x.crowd(9, 3), 3);
        Edge.looks(Edge::busy, "as many as there are", y -> y.crowd(3, 6), 6);
    }

    // ---- promise 21

    private static void tensOfTheEmptySet() {
        Edge.told(Edge.TERMS, "how many sets of k (0 .. 60)");
        Edge.looks(Edge::empty, "of none, where there is nobody", x -> x.tens(0), 1);
        Edge.looks(Edge::busy, "of none", x -> x.tens(0), 1);
        Edge.looks(EdgesOfCrowds::sixty, "of none, of sixty", x -> x.tens(0), 1);
        Edge.looks(EdgesOfCrowds::sixty, "of all sixty", x -> x.tens(60), 1);
        Edge.looks(EdgesOfCrowds::sixty, "of one", x -> x.tens(1), 6);
        Edge.looks(EdgesOfCrowds::sixty, "of all but one", x -> x.tens(59), 6);
    }

    private static void tensOfKOutside() {
        Edge.told(21, "TENS of k. BAD.");
        Edge.range(EdgesOfCrowds::sixty, "tens n of sixty", (x, n) -> x.tens(n), 0, 1, 60, 1, -2);
        Edge.range(Edge::empty, "tens n of nobody", (x, n) -> x.tens(n), 0, 1, 60, 0, -2);
    }

    private static void tensBeyondAll() {
        Edge.told(21, "TENS of k.");
        Edge.looks(Edge::empty, "one of nobody", x -> x.tens(1), 0);
        Edge.looks(() -> crowds(3), "all three", x -> x.tens(3), 1);
        Edge.looks(() -> crowds(3), "four of three", x -> x.tens(4), 0);
        Edge.looks(() -> crowds(0, 6), "of 1 over ten, six", x -> x.tens(6), 0);
    }

    private static void tensOfLikeRests() {
        Edge.told(Edge.TERMS, "(each is another one, also with like rests)");
        int[] many = {1, 6, 15, 20, 15, 6, 1};
        for (int k = 0; k <= 6; k++) {
            int size = k;
            Edge.looks(() -> crowds(6), k + " of six of 0 over ten", x -> x.tens(size), many[k]);
        }
        Edge.looks(() -> crowds(0, 0, 0, 0, 0, 6), "two of six of 5 over ten", x -> x.tens(2), 15);
        Edge.looks(() -> crowds(0, 0, 0, 0, 0, 6), "three of them", x -> x.tens(3), 0);
        Edge.looks(() -> crowds(0, 6, 0, 0, 0, 0, 0, 0, 0, 6), "1 and 9", x -> x.tens(2), 36);
    }

    private static void tensOfAll() {
        Edge.told(Edge.TERMS, "so that 10 divides what they come to");
        AgesTens x = sixty();
        BigInteger[] due = setsOfTens(6, 6, 6, 6, 6, 6, 6, 6, 6, 6);
        for (int k = 0; k <= 60; k++) {
            Edge.due("tens " + k + " of sixty", x.tens(k), due[k].longValueExact());
        }
    }

    private static void tensOfAllByRest() {
        Edge.told(Edge.TERMS, "of them all");
        for (int r = 0; r < 10; r++) {
            int[] many = new int[10];
            many[r] = 6;
            many[(r + 3) % 10] = 1;
            BigInteger[] due = setsOfTens(many);
            AgesTens x = crowds(many);
            for (int k = 0; k <= 8; k++) {
                Edge.due("tens " + k + ", six of " + r, x.tens(k), due[k].longValueExact());
            }
        }
    }

    /** Crowd by crowd: so many of r can be chosen in so many ways. */
    private static BigInteger[] setsOfTens(int... many) {
        BigInteger[][] sets = new BigInteger[67][10];
        for (BigInteger[] row : sets) {
            Arrays.fill(row, BigInteger.ZERO);
        }
        sets[0][0] = BigInteger.ONE;
        for (int r = 0; r < many.length; r++) {
            sets = withCrowd(sets, r, many[r]);
        }
        BigInteger[] tens = new BigInteger[67];
        for (int k = 0; k < 67; k++) {
            tens[k] = sets[k][0];
        }
        return tens;
    }

    private static BigInteger[][] withCrowd(BigInteger[][] sets, int r, int many) {
        BigInteger[][] more = new BigInteger[67][10];
        for (int k = 0; k < 67; k++) {
            for (int rest = 0; rest < 10; rest++) {
                BigInteger sum = BigInteger.ZERO;
                BigInteger ways = BigInteger.ONE;
                for (int taken = 0; taken <= Math.min(many, k); taken++) {
                    sum = sum.add(ways.multiply(sets[k - taken][Math.floorMod(rest - r * taken, 10)]));
                    ways = ways.multiply(BigInteger.valueOf(many - taken)).divide(BigInteger.valueOf(taken + 1));
                }
                more[k][rest] = sum;
            }
        }
        return more;
    }

    // ---- promise 22

    private static void spareNobody() {
        Edge.told(22, "FEWEST TO SPARE.");
        Edge.looks(Edge::empty, "where there is nobody", x -> x.spare(), 0);
        Edge.looks(() -> crowds(1), "one of 0 over ten", x -> x.spare(), 0);
        Edge.looks(() -> crowds(0, 0, 0, 0, 0, 2), "two of 5 over ten", x -> x.spare(), 0);
    }

    private static void spareAll() {
        Edge.told(Edge.TERMS, "(all, if none)");
        Edge.looks(() -> crowds(0, 1), "one of 1 over ten", x -> x.spare(), 1);
        Edge.looks(() -> crowds(0, 6), "six of 1 over ten", x -> x.spare(), 6);
        Edge.looks(() -> crowds(0, 0, 0, 0, 0, 1), "one of 5 over ten", x -> x.spare(), 1);
        Edge.looks(() -> crowds(0, 0, 0, 2), "two of 3 over ten", x -> x.spare(), 2);
    }

    private static void spareFewest() {
        Edge.told(Edge.TERMS, "the fewest that stay behind, if as many as can be go in one company of at least one "
            + "whose years 10 divides");
        Edge.looks(() -> crowds(1, 6), "one goes, six stay", x -> x.spare(), 6);
        Edge.looks(() -> crowds(0, 0, 0, 0, 0, 3), "two of three go", x -> x.spare(), 1);
        Edge.looks(() -> crowds(0, 0, 6), "five of six go", x -> x.spare(), 1);
        Edge.looks(() -> crowds(0, 1, 1, 1, 1, 1, 1, 1, 1, 1), "of 45 all but 5", x -> x.spare(), 1);
        Edge.looks(() -> crowds(6, 6, 6), "four of 2 over ten stay, the others come to 10", x -> x.spare(), 4);
    }

    private static void spareOfAllCrowds() {
        Edge.told(22, "FEWEST TO SPARE");
        Edge.looks(EdgesOfCrowds::sixty, "sixty, who come to 270", x -> x.spare(), 0);
        Edge.looks(() -> crowds(6, 6, 6, 6, 6, 6, 6, 6, 6, 5), "without one of 9", x -> x.spare(), 1);
        Edge.looks(() -> crowds(5, 6, 6, 6, 6, 6, 6, 6, 6, 6), "without one of 0", x -> x.spare(), 0);
    }
}
