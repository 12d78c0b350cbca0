/** Promises 29 (image), 30 (from), 31 (status), 32 (count), 33 (digest). */
public final class ImagesTest {
    public static void main(String[] args) {
        imagesKeepAll();
        imagesLeaveOut();
        imagesAreTwo();
        imagesRefused();
        whatIsCountedGoesWithAnImage();
        statuses();
        answersThatAreNoRefusal();
        counts();
        digests();
        Check.end();
    }

    private static AgesTens filled() {
        AgesTens x = new AgesTens();
        x.person(40000);
        x.person(50000);
        x.gate(2, 5);
        x.pair(0, 1, 0);
        x.pair(0, 1, 1);
        x.type(0x676174L, 3);
        x.crowd(7, 3);
        x.crowd(3, 1);
        x.passing(5, 42, true);
        x.passing(7, 99, false);
        x.liars(1);
        return x;
    }

    private static void imagesKeepAll() {
        AgesTens x = filled();
        long before = x.digest();
        Check.looks(x, "image", y -> y.image(1), 1);
        int fits = x.fits(-1);
        x.person(60000);
        x.gate(0, 1);
        x.pair(0, 2, 0);
        x.type(32, 1);
        x.crowd(7, 0);
        x.crowd(0, 1);
        x.forget();
        x.passing(1, 1, false);
        x.liars(2);
        Check.isTrue("another", x.digest() != before);
        Check.due("from", x.from(1), 1);
        Check.due("all is as it was", x.digest(), before);
        Check.due("people", x.count(0), 2);
        Check.due("a law", x.why(3, 0, 73000), 4);
        Check.due("an age", x.age(1, 50364), 0);
        Check.due("an age", x.age(1, 50365), 1);
        Check.due("tens", x.tens(2), 3);
        Check.due("fits", x.fits(-1), fits);
        Check.due("book", x.clear(), 3);
        Check.due("from again", x.from(1), 1);
        Check.due("all is as it was again", x.digest(), before);
        Check.due("a new one is with nobody", x.person(1), 2);
        Check.due("a new one is with nobody", x.pair(2, 0, 0), 1);
    }

    private static void imagesLeaveOut() {
        AgesTens x = filled();
        x.image(0);
        x.untold(0, 0);
        int above = x.part(0);
        int below = x.part(1);
        x.person(-1);
        x.pair(0, 1, 0);
        x.type(0, 8);
        x.crowd(7, 9);
        x.from(0);
        Check.isTrue("the fraction is another", below > 1);
        Check.due("the fraction stays, above", x.part(0), above);
        Check.due("the fraction stays, below", x.part(1), below);
        Check.due("status stays, BAD", x.status(0), 2);
        Check.due("status stays, NO", x.status(1), 1);
    }

    private static void imagesAreTwo() {
        AgesTens x = new AgesTens();
        x.image(0);
        x.person(1);
        x.image(1);
        x.person(2);
        Check.due("from 0", x.from(0), 1);
        Check.due("nobody", x.count(0), 0);
        Check.due("from 1, that stayed", x.from(1), 1);
        Check.due("one", x.count(0), 1);
        x.person(3);
        x.image(0);
        x.from(1);
        Check.due("one", x.count(0), 1);
        x.from(0);
        Check.due("it was kept anew", x.count(0), 2);
        x.person(4);
        x.from(0);
        Check.due("an image does not change", x.count(0), 2);
    }

    private static void imagesRefused() {
        AgesTens x = filled();
        for (int i : new int[] {-1, 2, Integer.MIN_VALUE, Integer.MAX_VALUE}) {
            Check.bad(x, "image " + i, y -> y.image(i), -2);
            Check.bad(x, "from " + i, y -> y.from(i), -2);
        }
        Check.no(x, "from 0", y -> y.from(0));
        Check.no(x, "from 1", y -> y.from(1));
        x.image(0);
        Check.no(x, "from 1, still", y -> y.from(1));
        Check.looks(x, "from 0, now", y -> y.from(0), 1);
    }

    private static void whatIsCountedGoesWithAnImage() {
        AgesTens x = new AgesTens();
        x.image(0);
        x.passing(1, 0, true);
        Check.due("a tenth", x.fits(-1), 10000);
        x.image(1);
        x.from(0);
        Check.due("all", x.fits(-1), 100000);
        x.from(1);
        Check.due("a tenth again", x.fits(-1), 10000);
        x.liars(1);
        Check.due("with a liar", x.fits(-1), 100000);
        x.from(1);
        Check.due("without", x.fits(-1), 10000);
        Check.due("the first has 0", x.untold(0, 0), 1);
        Check.due("the first has 0", x.part(1), 1);
    }

    private static void statuses() {
        AgesTens x = new AgesTens();
        for (int what : new int[] {-1, 3, Integer.MIN_VALUE, Integer.MAX_VALUE}) {
            Check.bad(x, "status " + what, y -> y.status(what), -1);
        }
        Check.due("BAD", x.status(0), 4);
        Check.due("NO", x.status(1), 0);
        Check.due("FULL", x.status(2), 0);
        x.from(0);
        Check.due("NO", x.status(1), 1);
        for (int i = 0; i < 10; i++) {
            x.person(0);
        }
        Check.due("FULL", x.status(2), 2);
        Check.due("BAD, still", x.status(0), 4);
    }

    /** Neither NONE, nor -5, nor a FAULT is told as BAD, NO or FULL. */
    private static void answersThatAreNoRefusal() {
        AgesTens x = new AgesTens();
        x.person(100);
        x.gate(1, 1);
        x.type('x', 1);
        x.age(0, 0);
        x.read();
        x.can(0, 0, 0, 5);
        x.parts(1, 0, 0, 5);
        x.fits(100000);
        x.lent(1, 0, 0);
        x.next(1, 0, 146096);
        x.wedding(1, 0, 0, 146096);
        for (int what = 0; what < 3; what++) {
            Check.due("status " + what, x.status(what), 0);
        }
    }

    private static void counts() {
        AgesTens x = filled();
        Check.looks(x, "people", y -> y.count(0), 2);
        Check.looks(x, "gates", y -> y.count(1), 1);
        Check.looks(x, "bytes", y -> y.count(2), 3);
        Check.looks(x, "passings", y -> y.count(3), 2);
        for (int what : new int[] {-1, 4, Integer.MIN_VALUE, Integer.MAX_VALUE}) {
            Check.bad(x, "count " + what, y -> y.count(what), -2);
        }
    }

    private static void digests() {
        AgesTens x = filled();
        x.untold(0, 0);
        x.gate(4, 8);
        long[] told = {2, 2, 3, 2, 40000, 2, 2, 50000, 1, 1, 2, 5, 4, 8, 'g', 'a', 't',
            0, 0, 0, 1, 0, 0, 0, 3, 0, 0, 5, 42, 1, 7, 99, 0, 1, x.part(0), x.part(1)};
        long h = 641;
        for (long v : told) {
            h = 31 * h + v;
        }
        Check.due("digest", x.digest(), h);
        Check.due("digest again", x.digest(), h);
    }
}
