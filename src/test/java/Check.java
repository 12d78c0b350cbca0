/** What the tests share: answers compared with those that are due, and texts typed into a BOOK. */
final class Check {
    private static int asked = 0;
    private static int wrong = 0;

    private Check() { }

    static void due(String call, long got, long want) {
        asked++;
        if (got != want) {
            wrong++;
            System.out.println(call + " answered " + got + ", due is " + want);
        }
    }

    static void isTrue(String what, boolean so) {
        due(what, so ? 1 : 0, 1);
    }

    /** A refused call answers as due, raises one counter of STATUS by one, and changes nothing else. */
    static void refused(AgesTens x, String call, Call made, long answer, int what) {
        long[] before = seen(x);
        due(call, made.answer(x), answer);
        before[what]++;
        long[] after = seen(x);
        for (int i = 0; i < before.length; i++) {
            due(call + ", behind it " + i, after[i], before[i]);
        }
    }

    /** A call that only looks changes nothing at all. */
    static void looks(AgesTens x, String call, Call made, long answer) {
        long[] before = seen(x);
        due(call, made.answer(x), answer);
        long[] after = seen(x);
        for (int i = 0; i < before.length; i++) {
            due(call + ", behind it " + i, after[i], before[i]);
        }
    }

    static void bad(AgesTens x, String call, Call made, long answer) {
        refused(x, call, made, answer, 0);
    }

    static void no(AgesTens x, String call, Call made) {
        refused(x, call, made, -3, 1);
    }

    static void full(AgesTens x, String call, Call made) {
        refused(x, call, made, -4, 2);
    }

    private static long[] seen(AgesTens x) {
        return new long[] {x.status(0), x.status(1), x.status(2), x.digest(), x.part(0), x.part(1)};
    }

    static void write(AgesTens x, String text) {
        x.clear();
        for (int i = 0; i < text.length(); i++) {
            x.type(text.charAt(i), 1);
        }
    }

    static int read(AgesTens x, String text) {
        write(x, text);
        return x.read();
    }

    static void end() {
        System.out.println(wrong == 0 ? "all " + asked + " answers are as due"
            : wrong + " of " + asked + " answers are not as due");
        if (wrong != 0) {
            System.exit(1);
        }
    }

    interface Call {
        long answer(AgesTens x);
    }
}
