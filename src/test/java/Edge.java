import java.io.IOException;
import java.nio.file.Files;
import java.nio.file.Path;
import java.time.LocalDate;

/** What the tests of single sentences share: the sentence in hand, objects to begin with, refusals seen by a twin. */
final class Edge {
    /** The DAY on which the people of `of` have their ages, the 14th of November 1999. */
    static final int TODAY = 73000;
    static final int LAST_DAY = 146096;
    static final int TERMS = 0;

    private static final int PROMISES = 33;
    private static final Path DOCUMENT = Path.of("..", "shared", "DOC.md");
    private static final boolean[] NAMED = new boolean[PROMISES + 1];
    private static String[] sections;
    private static String heading = "";

    private Edge() { }

    interface Maker {
        AgesTens make();
    }

    interface Numbered {
        long answer(AgesTens x, int n);
    }

    // ---- which sentence is tested

    /** The sentence that the next calls test: of a promise, or of TERMS. It must stand there in these words. */
    static void told(int promise, String words) {
        heading = (promise == TERMS ? "Terms" : "Promise " + promise) + ", \"" + words + "\": ";
        NAMED[promise] = true;
        if (Files.isReadable(DOCUMENT)) {
            Check.isTrue(heading + "the document has these words", section(promise).contains(plain(words)));
        }
    }

    static void everyPromiseIsNamed() {
        for (int i = 0; i <= PROMISES; i++) {
            Check.isTrue("promise " + i + " (0: Terms) has tests", NAMED[i]);
        }
    }

    private static String section(int promise) {
        if (sections == null) {
            sections = plain(document()).split("## Promise \\d+: ");
        }
        return promise < sections.length ? sections[promise] : "";
    }

    private static String document() {
        try {
            return Files.readString(DOCUMENT);
        } catch (IOException e) {
            return "";
        }
    }

    private static String plain(String text) {
        return text.replaceAll("\\s+", " ");
    }

    // ---- objects to begin with

    static int day(int year, int month, int dayOfMonth) {
        return (int) (LocalDate.of(year, month, dayOfMonth).toEpochDay() - LocalDate.of(1800, 1, 1).toEpochDay());
    }

    static AgesTens empty() {
        return new AgesTens();
    }

    /** Gate 0 with a law and seats, and people who have these ages on TODAY. */
    static AgesTens of(int law, int seats, int... ages) {
        AgesTens x = new AgesTens();
        x.gate(law, seats);
        for (int age : ages) {
            x.person(day(1999 - age, 1, 1));
        }
        return x;
    }

    /** Something of all there is: 5 people, 2 gates, 16 bytes, 3 passings, 1 liar, 1/10, both images, STATUS 1 1 1. */
    static AgesTens busy() {
        AgesTens x = of(0, 4, 10, 25, 5, 0, 30);
        x.untold(2, 7);
        x.gate(3, 8);
        x.image(0);
        x.pair(0, 1, 0);
        x.pair(1, 2, 1);
        x.pair(1, 0, 0);
        for (int i = 0; i < 25; i++) {
            x.type(-1, 8);
        }
        x.type(-1, 1);
        x.clear();
        x.type(0x706572736f6e2031L, 8);
        x.type(0x3930302031203120L, 8);
        x.crowd(0, 2);
        x.crowd(3, 6);
        x.passing(5, 42, true);
        x.image(1);
        x.passing(3, 0, false);
        x.passing(31, 99, true);
        x.liars(1);
        x.crowd(7, 1);
        x.day(1799, 1, 1);
        return x;
    }

    /** As much as can be: 8 people, 4 gates, 200 bytes, 10 passings, all crowds of 6, 3 liars. */
    static AgesTens brimful() {
        AgesTens x = of(4, 8, 10, 25, 5, 0, 30, 99, 61, 199);
        x.gate(1, 1);
        x.gate(2, 8);
        x.gate(3, 2);
        for (int i = 0; i < 25; i++) {
            x.type(-1 - i, 8);
        }
        for (int r = 0; r < 10; r++) {
            x.crowd(r, 6);
            x.passing(31 - r, 99 - r, r % 2 == 0);
        }
        x.liars(3);
        return x;
    }

    // ---- what a call must answer, and what it may change

    static void due(String call, long got, long want) {
        Check.due(heading + call, got, want);
    }

    static void bad(Maker maker, String call, Check.Call made) {
        refused(maker, call, made, -2, 0);
    }

    static void badAs(long answer, Maker maker, String call, Check.Call made) {
        refused(maker, call, made, answer, 0);
    }

    static void no(Maker maker, String call, Check.Call made) {
        refused(maker, call, made, -3, 1);
    }

    static void full(Maker maker, String call, Check.Call made) {
        refused(maker, call, made, -4, 2);
    }

    /** A call that is not refused; what it changes is for others to test. */
    static void takes(Maker maker, String call, Check.Call made, long answer) {
        AgesTens x = maker.make();
        long[] before = statusOf(x);
        due(call, made.answer(x), answer);
        compare(call, statusOf(x), before);
    }

    /** A call that is not refused and changes nothing. */
    static void looks(Maker maker, String call, Check.Call made, long answer) {
        AgesTens x = maker.make();
        due(call, made.answer(x), answer);
        compare(call, allOf(x), allOf(maker.make()));
    }

    /** What is answered by the least and the greatest number taken, and that those outside them are BAD. */
    static void range(Maker maker, String call, Numbered made, int least, long atLeast, int most, long atMost,
            long bad) {
        takes(maker, call + " n = " + least, x -> made.answer(x, least), atLeast);
        takes(maker, call + " n = " + most, x -> made.answer(x, most), atMost);
        outside(maker, call, made, least, most, bad);
    }

    static void outside(Maker maker, String call, Numbered made, int least, int most, long bad) {
        int[] wrong = {least - 1, most + 1, Integer.MIN_VALUE, Integer.MAX_VALUE};
        for (int n : wrong) {
            badAs(bad, maker, call + " n = " + n, x -> made.answer(x, n));
        }
    }

    private static void refused(Maker maker, String call, Check.Call made, long answer, int kind) {
        AgesTens x = maker.make();
        due(call, made.answer(x), answer);
        long[] want = allOf(maker.make());
        want[kind]++;
        compare(call, allOf(x), want);
    }

    private static void compare(String call, long[] got, long[] want) {
        for (int i = 0; i < want.length; i++) {
            due(call + ", what is seen behind it (" + i + ")", got[i], want[i]);
        }
    }

    private static long[] statusOf(AgesTens x) {
        return new long[] {x.status(0), x.status(1), x.status(2)};
    }

    /** STATUS, THE FRACTION, what there is and both IMAGES, for objects that are made alike. */
    private static long[] allOf(AgesTens x) {
        long[] now = whatThereIs(x);
        long first = x.from(0);
        long[] ofFirst = whatThereIs(x);
        long second = x.from(1);
        long[] ofSecond = whatThereIs(x);
        long[] all = new long[3 * now.length + 2];
        System.arraycopy(now, 0, all, 0, now.length);
        System.arraycopy(ofFirst, 3, all, now.length, now.length - 3);
        System.arraycopy(ofSecond, 3, all, 2 * now.length, now.length - 3);
        all[3 * now.length] = first;
        all[3 * now.length + 1] = second;
        return all;
    }

    private static long[] whatThereIs(AgesTens x) {
        int people = x.count(0);
        long mayGo = 0;
        for (int gate = 0; gate < x.count(1); gate++) {
            mayGo = 257 * mayGo + x.can(gate, TODAY, 0, -1);
        }
        long ages = 0;
        for (int p = 0; p < people; p++) {
            ages = 401 * ages + x.age(p, TODAY);
        }
        return new long[] {x.status(0), x.status(1), x.status(2), x.part(0), x.part(1), people, x.count(1),
            x.count(2), x.count(3), x.digest(), mayGo, ages, x.spare(), x.tens(3), x.fits(-1)};
    }
}
