import java.math.BigInteger;
import java.util.ArrayList;
import java.util.List;

/** Sentences about IMAGES, STATUS, what is refused, and promises 29 (image) to 33 (digest). */
final class EdgesOfImages {
    private EdgesOfImages() { }

    static void run() {
        imageOfNoNumber();
        imageIsKept();
        imageIsKeptAgain();
        imageOfNothing();
        fromOfNoNumber();
        fromNoneKept();
        fromGoesOn();
        imagesKeepNoImages();
        imagesKeepNoFraction();
        imagesKeepNoStatus();
        statusOfEach();
        statusOfAnotherWhat();
        statusOfAnswersToldOtherwise();
        statusOfAnswersThatRefuseNothing();
        statusOfAllCalls();
        refusedInTheirOrder();
        countOfNoWhat();
        countOfNone();
        countOfMost();
        digestOfANewObject();
        digestOfAFullOne();
        digestOfEachValue();
        digestOfTheFraction();
        digestOfWhatIsNot();
        theConstants();
    }

    // ---- promise 29

    private static void imageOfNoNumber() {
        Edge.told(29, "An IMAGE is kept: 1. BAD.");
        Edge.range(Edge::empty, "image n of a new object", (x, n) -> x.image(n), 0, 1, 1, 1, -2);
        Edge.range(Edge::busy, "image n", (x, n) -> x.image(n), 0, 1, 1, 1, -2);
    }

    private static void imageIsKept() {
        Edge.told(Edge.TERMS, "IMAGES 0, 1 keep all");
        for (int i = 0; i <= 1; i++) {
            AgesTens x = Edge.brimful();
            long was = x.digest();
            Edge.due("image " + i, x.image(i), 1);
            Edge.due("nothing changes by it", x.digest(), was);
            empty(x);
            Edge.due("all is gone", x.digest(), new AgesTens().digest());
            fillOtherwise(x);
            Edge.due("from " + i, x.from(i), 1);
            Edge.due("all is there again", x.digest(), was);
            Edge.due("AGE, too", x.age(7, Edge.TODAY), 199);
            Edge.due("AGE ahead of the birthday, too", x.age(7, Edge.day(2000, 1, 1) - 1), 199);
            Edge.due("AGE on the birthday, too", x.age(7, Edge.day(2000, 1, 1)), 200);
            Edge.due("who MAY, too", x.can(3, Edge.TODAY, 0, -1), 36);
            Edge.due("FITS, too", x.fits(-1), Edge.brimful().fits(-1));
            Edge.due("FULL, too", x.person(0), -4);
        }
    }

    /** As full as brimful, but of other numbers: nothing of it may be seen behind from. */
    private static void fillOtherwise(AgesTens x) {
        for (int p = 0; p < 8; p++) {
            x.person(5000 + 77 * p);
            x.pair(0, p, p % 2);
        }
        for (int g = 0; g < 4; g++) {
            x.gate(g, 8 - g);
        }
        for (int i = 0; i < 25; i++) {
            x.type(0x123456789abcdefL, 8);
        }
        for (int r = 0; r <= 9; r++) {
            x.crowd(r, r % 6);
            x.passing(1 + r, r, r % 3 == 0);
        }
        x.liars(1);
    }

    private static void empty(AgesTens x) {
        x.clear();
        x.read();
        x.forget();
        x.liars(0);
        for (int r = 0; r <= 9; r++) {
            x.crowd(r, 0);
        }
    }

    private static void imageIsKeptAgain() {
        Edge.told(29, "An IMAGE is kept: 1.");
        AgesTens x = new AgesTens();
        x.image(0);
        x.person(0);
        Edge.due("in the place of the one kept ahead", x.image(0), 1);
        x.person(0);
        x.from(0);
        Edge.due("PEOPLE", x.count(0), 1);
    }

    private static void imageOfNothing() {
        Edge.told(30, "It goes on from an IMAGE: 1.");
        AgesTens x = new AgesTens();
        Edge.due("nothing is kept as an IMAGE, too", x.image(1), 1);
        x.person(0);
        x.gate(0, 1);
        x.type(5, 5);
        x.passing(1, 1, true);
        x.crowd(3, 3);
        x.liars(2);
        Edge.due("from it", x.from(1), 1);
        Edge.due("as new", x.digest(), new AgesTens().digest());
    }

    // ---- promise 30

    private static void fromOfNoNumber() {
        Edge.told(30, "BAD");
        Edge.range(Edge::busy, "from n", (x, n) -> x.from(n), 0, 1, 1, 1, -2);
        Edge.outside(Edge::empty, "BAD is ahead of NO: from n", (x, n) -> x.from(n), 0, 1, -2);
    }

    private static AgesTens withImage(int i) {
        AgesTens x = Edge.of(0, 8, 1, 2, 3);
        x.image(i);
        x.person(0);
        return x;
    }

    private static void fromNoneKept() {
        Edge.told(30, "NO: none was kept.");
        Edge.no(Edge::empty, "from 0", x -> x.from(0));
        Edge.no(Edge::empty, "from 1", x -> x.from(1));
        Edge.no(Edge::brimful, "from 0 of a full one", x -> x.from(0));
        Edge.no(() -> withImage(0), "from 1, where 0 was kept", x -> x.from(1));
        Edge.no(() -> withImage(1), "from 0, where 1 was kept", x -> x.from(0));
        Edge.takes(() -> withImage(0), "from 0, where 0 was kept", x -> x.from(0), 1);
        Edge.takes(() -> withImage(1), "from 1, where 1 was kept", x -> x.from(1), 1);
        AgesTens x = new AgesTens();
        x.image(2);
        Edge.due("an IMAGE that was refused is not kept", x.from(1), -3);
    }

    private static void fromGoesOn() {
        Edge.told(Edge.TERMS, "it goes on from one");
        AgesTens x = withImage(0);
        x.from(0);
        Edge.due("the next of PEOPLE", x.person(5), 3);
        Edge.due("PEOPLE", x.count(0), 4);
        Edge.due("again", x.from(0), 1);
        Edge.due("the IMAGE is as it was", x.count(0), 3);
        x.pair(0, 1, 0);
        x.from(0);
        Edge.due("ties, too", x.pair(0, 1, 0), 1);
    }

    private static void imagesKeepNoImages() {
        Edge.told(Edge.TERMS, "keep all but them");
        AgesTens x = new AgesTens();
        x.image(0);
        x.person(0);
        x.image(1);
        x.from(0);
        Edge.due("from 1, kept behind 0", x.from(1), 1);
        Edge.due("PEOPLE of 1", x.count(0), 1);
        Edge.due("from 0, kept ahead of 1", x.from(0), 1);
        Edge.due("PEOPLE of 0", x.count(0), 0);
    }

    private static void imagesKeepNoFraction() {
        Edge.told(Edge.TERMS, "keep all but them, THE FRACTION and STATUS");
        AgesTens x = new AgesTens();
        x.image(0);
        x.untold(0, 0);
        x.from(0);
        Edge.due("above", x.part(0), 1);
        Edge.due("below", x.part(1), 10);
        x.image(1);
        x.passing(1, 0, true);
        x.untold(0, 5);
        x.from(1);
        Edge.due("above, 0 by 1", x.part(0), 0);
        Edge.due("below, 0 by 1", x.part(1), 1);
    }

    private static void imagesKeepNoStatus() {
        Edge.told(Edge.TERMS, "THE FRACTION and STATUS");
        AgesTens x = new AgesTens();
        x.from(0);
        x.image(0);
        x.date(0, 3);
        x.date(0, 3);
        x.from(1);
        x.from(0);
        Edge.due("BAD", x.status(0), 2);
        Edge.due("NO", x.status(1), 2);
        Edge.due("FULL", x.status(2), 0);
    }

    // ---- promise 31

    private static void statusOfEach() {
        Edge.told(31, "STATUS: BAD (0), NO (1), FULL (2).");
        Edge.looks(Edge::empty, "BAD at first", x -> x.status(0), 0);
        Edge.looks(Edge::empty, "NO at first", x -> x.status(1), 0);
        Edge.looks(Edge::empty, "FULL at first", x -> x.status(2), 0);
        AgesTens x = new AgesTens();
        for (int i = 0; i < 26; i++) {
            x.type(0, 8);
        }
        x.type(0, 8);
        x.type(0, 1);
        x.from(0);
        x.from(1);
        x.from(2);
        Edge.due("BAD", x.status(0), 1);
        Edge.due("NO", x.status(1), 2);
        Edge.due("FULL", x.status(2), 3);
    }

    private static void statusOfAnotherWhat() {
        Edge.told(31, "-1: another what (counts as BAD).");
        Edge.range(Edge::busy, "status n", (x, n) -> x.status(n), 0, 1, 2, 1, -1);
        AgesTens x = new AgesTens();
        x.status(3);
        x.status(-1);
        Edge.due("each counts", x.status(0), 2);
    }

    private static void statusOfAnswersToldOtherwise() {
        Edge.told(Edge.TERMS, "(where others are told they count as these)");
        AgesTens x = Edge.of(0, 8, 10);
        Edge.due("why", x.why(0, 0, 0), -10);
        Edge.due("can", x.can(0, 0, 9, -1), -10);
        Edge.due("parts", x.parts(2, 0, 0, 0), -10);
        Edge.due("fits", x.fits(-2), -10);
        Edge.due("status", x.status(3), -1);
        Edge.due("tens", x.tens(61), -2);
        Edge.due("BAD", x.status(0), 6);
        Edge.due("NO", x.status(1), 0);
        Edge.due("FULL", x.status(2), 0);
    }

    private static void statusOfAnswersThatRefuseNothing() {
        Edge.told(Edge.TERMS, "STATUS: how many calls were refused as BAD, NO, FULL (each answer told so below is "
            + "such a one)");
        AgesTens x = Edge.of(0, 8, 1);
        x.type('?', 1);
        Edge.due("a FAULT", x.read(), -10);
        Edge.due("NONE of age", x.age(0, 0), -1);
        Edge.due("NONE of lent", x.lent(1, 0, Edge.TODAY), -1);
        Edge.due("NONE of next", x.next(1, 0, Edge.LAST_DAY - 300), -1);
        Edge.due("NONE of wedding", x.wedding(1, 0, 0, 0), -1);
        Edge.due("-5 of can", x.can(0, 0, 0, 0), -5);
        Edge.due("-5 of parts", x.parts(0, 0, 0, 0), -5);
        Edge.due("-5 of fits", x.fits(100000), -5);
        for (int what = 0; what <= 2; what++) {
            Edge.due("status " + what, x.status(what), 0);
        }
    }

    private static void statusOfAllCalls() {
        Edge.told(31, "STATUS");
        AgesTens x = new AgesTens();
        for (int i = 0; i < 511; i++) {
            x.status(3);
        }
        Edge.due("511 refused, by the 512th call", x.status(0), 511);
    }

    private static void refusedInTheirOrder() {
        Edge.told(Edge.TERMS, "Refused, changing nothing but STATUS, the first of: BAD -2 a number is not as told; "
            + "NO -3 as told; FULL -4");
        Edge.bad(Edge::busy, "BAD, not NO", x -> x.pair(0, 1, 2));
        Edge.no(Edge::busy, "NO", x -> x.pair(0, 1, 0));
        Edge.bad(Edge::brimful, "BAD, not FULL, of a person", x -> x.person(-1));
        Edge.bad(Edge::brimful, "BAD, not FULL, of a gate", x -> x.gate(0, 0));
        Edge.bad(Edge::brimful, "BAD, not FULL, of bytes", x -> x.type(0, 9));
        Edge.bad(Edge::brimful, "BAD, not FULL, of a PASSING", x -> x.passing(0, 0, true));
        Edge.bad(Edge::empty, "BAD, not NO, of an IMAGE", x -> x.from(2));
    }

    // ---- promise 32

    private static void countOfNoWhat() {
        Edge.told(32, "BAD.");
        Edge.range(Edge::busy, "count n", (x, n) -> x.count(n), 0, 5, 3, 3, -2);
    }

    private static void countOfNone() {
        Edge.told(32, "How many: 0 PEOPLE, 1 GATES, 2 bytes of THE BOOK, 3 PASSINGS.");
        for (int what = 0; what <= 3; what++) {
            int w = what;
            Edge.looks(Edge::empty, "count " + w + " of a new object", x -> x.count(w), 0);
        }
    }

    private static void countOfMost() {
        Edge.told(32, "How many");
        int[] some = {5, 2, 16, 3};
        int[] most = {8, 4, 200, 10};
        for (int what = 0; what <= 3; what++) {
            int w = what;
            Edge.looks(Edge::busy, "count " + w, x -> x.count(w), some[w]);
            Edge.looks(Edge::brimful, "count " + w + " of a full one", x -> x.count(w), most[w]);
        }
    }

    // ---- promise 33

    private static long digestOf(List<Integer> values) {
        BigInteger h = BigInteger.valueOf(641);
        for (int v : values) {
            h = h.multiply(BigInteger.valueOf(31)).add(BigInteger.valueOf(v));
        }
        Check.isTrue("the digest is too large for 64 bits, and wraps around", h.bitLength() > 64);
        return h.longValue();
    }

    private static List<Integer> values(int... values) {
        List<Integer> list = new ArrayList<>();
        for (int v : values) {
            list.add(v);
        }
        return list;
    }

    private static void digestOfANewObject() {
        Edge.told(33, "h = 641; then h = 31 h + v for each v: count(0) to count(3)");
        List<Integer> v = values(0, 0, 0, 0, 0, 0, 0, 0, 0, 0, 0, 0, 0, 0, 0, 0, 1);
        Edge.looks(Edge::empty, "of a new object", x -> x.digest(), digestOf(v));
    }

    private static void digestOfAFullOne() {
        Edge.told(33, "of PEOPLE the DAY, WITH, APART (bits); of GATES LAW, SEATS; bytes of THE BOOK; CROWDS of "
            + "0 .. 9; of PASSINGS the set, KNOWN, let (1, 0); LIARS; THE FRACTION.");
        AgesTens x = Edge.brimful();
        x.pair(0, 7, 0);
        x.pair(6, 7, 1);
        x.pair(1, 0, 1);
        List<Integer> v = values(8, 4, 200, 10);
        int[] ages = {10, 25, 5, 0, 30, 99, 61, 199};
        int[] with = {128, 0, 0, 0, 0, 0, 0, 1};
        int[] apart = {2, 1, 0, 0, 0, 0, 128, 64};
        for (int p = 0; p < 8; p++) {
            v.addAll(values(Edge.day(1999 - ages[p], 1, 1), with[p], apart[p]));
        }
        v.addAll(values(4, 8, 1, 1, 2, 8, 3, 2));
        for (int i = 0; i < 25; i++) {
            v.addAll(values(255, 255, 255, 255, 255, 255, 255, 255 - i));
        }
        v.addAll(values(6, 6, 6, 6, 6, 6, 6, 6, 6, 6));
        for (int j = 0; j < 10; j++) {
            v.addAll(values(31 - j, 99 - j, j % 2 == 0 ? 1 : 0));
        }
        v.addAll(values(3, 0, 1));
        Edge.due("of a full one", x.digest(), digestOf(v));
    }

    private static void digestOfEachValue() {
        Edge.told(33, "h = 31 h + v for each v");
        Edge.due("the last DAY, the last of laws", digestOfOne(), digestOf(values(1, 1, 1, 1, Edge.LAST_DAY, 0, 0, 4, 1,
            128, 0, 0, 0, 0, 0, 0, 0, 0, 0, 5, 16, 99, 0, 2, 0, 1)));
    }

    private static long digestOfOne() {
        AgesTens x = new AgesTens();
        x.person(Edge.LAST_DAY);
        x.gate(4, 1);
        x.type(128, 1);
        x.crowd(9, 5);
        x.passing(16, 99, false);
        x.liars(2);
        return x.digest();
    }

    private static void digestOfTheFraction() {
        Edge.told(33, "THE FRACTION.");
        AgesTens x = new AgesTens();
        x.untold(0, 0);
        Edge.due("1 by 10", x.digest(), digestOf(values(0, 0, 0, 0, 0, 0, 0, 0, 0, 0, 0, 0, 0, 0, 0, 1, 10)));
    }

    private static void digestOfWhatIsNot() {
        Edge.told(33, "bytes of THE BOOK");
        AgesTens x = Edge.brimful();
        empty(x);
        x.status(9);
        x.image(0);
        Edge.due("what is gone, STATUS and IMAGES are not in it", x.digest(), new AgesTens().digest());
    }

    private static void theConstants() {
        Edge.told(Edge.TERMS, "NONE = -1, BAD = -2, NO = -3, FULL = -4");
        Edge.due("NONE", AgesTens.NONE, -1);
        Edge.due("BAD", AgesTens.BAD, -2);
        Edge.due("NO", AgesTens.NO, -3);
        Edge.due("FULL", AgesTens.FULL, -4);
    }
}
