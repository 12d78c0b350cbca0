import java.util.Random;

/** Promises 20 (crowd), 21 (tens), 22 (spare). */
public final class CrowdsTest {
    public static void main(String[] args) {
        crowds();
        crowdRefused();
        tensOfAFew();
        tensOfMany();
        tensRefused();
        spares();
        againstAllSets();
        Check.end();
    }

    private static void crowds() {
        AgesTens x = new AgesTens();
        for (int r = 0; r < 10; r++) {
            Check.due("at first", x.crowd(r, 6), 0);
            Check.due("what it was", x.crowd(r, r % 7), 6);
            Check.due("what it was then", x.crowd(r, 0), r % 7);
        }
    }

    private static void crowdRefused() {
        AgesTens x = new AgesTens();
        x.crowd(3, 2);
        int[][] wrong = {{-1, 0}, {10, 0}, {0, -1}, {0, 7}, {Integer.MIN_VALUE, 0}, {Integer.MAX_VALUE, 0},
            {0, Integer.MIN_VALUE}, {0, Integer.MAX_VALUE}};
        for (int[] w : wrong) {
            Check.bad(x, "crowd " + w[0] + " " + w[1], y -> y.crowd(w[0], w[1]), -2);
        }
        Check.due("it stays", x.crowd(3, 2), 2);
    }

    private static void tensOfAFew() {
        AgesTens x = new AgesTens();
        x.crowd(5, 4);
        x.crowd(0, 1);
        long[] due = {1, 1, 6, 6, 1, 1, 0};
        for (int k = 0; k < due.length; k++) {
            int of = k;
            Check.looks(x, "tens " + k, y -> y.tens(of), due[k]);
        }
        Check.looks(x, "tens 60", y -> y.tens(60), 0);
    }

    private static void tensOfMany() {
        AgesTens x = new AgesTens();
        long all = 0;
        for (int r = 0; r < 10; r++) {
            x.crowd(r, 6);
        }
        for (int k = 0; k <= 60; k++) {
            all += x.tens(k);
            Check.due("as many stay as go", x.tens(k), x.tens(60 - k));
        }
        // Of six with one over ten, each sum is as likely as the others but for those of fives and twos.
        Check.due("half of all", x.tens(30), 11826458140974752L);
        Check.isTrue("about a tenth of all", Math.abs(all - (1L << 60) / 10) < 1L << 40);
    }

    private static void tensRefused() {
        AgesTens x = new AgesTens();
        for (int k : new int[] {-1, 61, Integer.MIN_VALUE, Integer.MAX_VALUE}) {
            Check.bad(x, "tens " + k, y -> y.tens(k), -2);
        }
    }

    private static void spares() {
        AgesTens x = new AgesTens();
        Check.looks(x, "nobody", AgesTens::spare, 0);
        x.crowd(1, 6);
        Check.looks(x, "none can go: all", AgesTens::spare, 6);
        x.crowd(4, 1);
        Check.looks(x, "all can go", AgesTens::spare, 0);
        x.crowd(0, 2);
        Check.looks(x, "all, with tens", AgesTens::spare, 0);
        x.crowd(4, 0);
        Check.looks(x, "tens alone can", AgesTens::spare, 6);
        x.crowd(0, 0);
        x.crowd(1, 0);
        x.crowd(2, 6);
        Check.looks(x, "five of six", AgesTens::spare, 1);
        x.crowd(2, 4);
        Check.looks(x, "none of four", AgesTens::spare, 4);
    }

    private static void againstAllSets() {
        Random random = new Random(20);
        for (int run = 0; run < 60; run++) {
            AgesTens x = new AgesTens();
            int[] rests = new int[12];
            int many = 0;
            for (int r = random.nextInt(4); r < 10; r += 1 + random.nextInt(4)) {
                int n = Math.min(random.nextInt(7), rests.length - many);
                x.crowd(r, n);
                for (int i = 0; i < n; i++) {
                    rests[many++] = r;
                }
            }
            checkAllSets("run " + run, x, rests, many);
        }
    }

    private static void checkAllSets(String run, AgesTens x, int[] rests, int many) {
        long[] due = new long[61];
        for (int set = 0; set < 1 << many; set++) {
            int sum = 0;
            for (int i = 0; i < many; i++) {
                sum += (set >> i & 1) * rests[i];
            }
            due[Integer.bitCount(set)] += sum % 10 == 0 ? 1 : 0;
        }
        int most = 0;
        for (int k = 0; k <= 60; k++) {
            Check.due(run + ", tens " + k, x.tens(k), due[k]);
            most = due[k] > 0 ? k : most;
        }
        Check.due(run + ", spare", x.spare(), many - most);
    }
}
