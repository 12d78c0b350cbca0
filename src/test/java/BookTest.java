/** Promises 9 (type), 10 (clear), 11 (read). */
public final class BookTest {
    public static void main(String[] args) {
        typing();
        bytesAreUnsigned();
        typeRefused();
        clearing();
        booksThatAreRead();
        faults();
        whatIsReadTakesThePlace();
        aFaultChangesNothing();
        Check.end();
    }

    private static void typing() {
        AgesTens x = new AgesTens();
        Check.due("two of three bytes", x.type(0x41_67_61L, 2), 2);
        Check.due("two more", x.type(0x746520303820L >> 16, 4), 6);
        Check.due("count", x.count(2), 6);
        AgesTens z = new AgesTens();
        for (char sign : "gate 0".toCharArray()) {
            z.type(sign, 1);
        }
        Check.due("highest first", x.digest() == z.digest() ? 1 : 0, 1);
        Check.due("all eight", z.type(-1L, 8), 14);
    }

    private static void bytesAreUnsigned() {
        AgesTens x = new AgesTens();
        x.type(0xFFL, 1);
        long h = (641L * 31 * 31 * 31 + 1) * 31;
        h = 31 * h + 255;
        for (int i = 0; i < 11; i++) {
            h *= 31;
        }
        Check.due("a byte of 255", x.digest(), 31 * (31 * h) + 1);
        AgesTens z = new AgesTens();
        z.type(Long.MIN_VALUE, 8);
        Check.due("a byte of 128 begins none", z.read(), -10);
    }

    private static void typeRefused() {
        AgesTens x = new AgesTens();
        for (int n : new int[] {0, 9, -1, Integer.MIN_VALUE, Integer.MAX_VALUE}) {
            Check.bad(x, "type n " + n, y -> y.type(32, n), -2);
        }
        for (int i = 1; i <= 24; i++) {
            Check.due("type 8", x.type(0x2020202020202020L, 8), 8 * i);
        }
        Check.due("type to 199", x.type(0x20202020202020L, 7), 199);
        Check.full(x, "two more", y -> y.type(0x2020L, 2));
        Check.full(x, "eight more", y -> y.type(0L, 8));
        Check.due("the 200th", x.type(32, 1), 200);
        Check.full(x, "the 201st", y -> y.type(32, 1));
        Check.bad(x, "BAD is ahead of FULL", y -> y.type(32, 9), -2);
        Check.due("200 blanks", x.read(), 0);
    }

    private static void clearing() {
        AgesTens x = new AgesTens();
        Check.due("read", Check.read(x, "gate 0 8;"), 1);
        Check.due("clear", x.clear(), 9);
        Check.due("clear again", x.clear(), 0);
        Check.due("what was read stays", x.count(1), 1);
        Check.due("bytes", x.count(2), 0);
    }

    private static void booksThatAreRead() {
        AgesTens x = new AgesTens();
        Check.due("empty", Check.read(x, ""), 0);
        Check.due("blanks", Check.read(x, "   "), 0);
        Check.due("no blanks but between numbers", Check.read(x, "person2000 2 29;gate4 8;"), 2);
        Check.due("born", x.age(0, 73107), 0);
        Check.due("not born", x.age(0, 73106), -1);
        Check.due("blanks everywhere", Check.read(x, "  person  2000  02  0029  ;  gate 0000 08 ; "), 2);
        Check.due("people", x.count(0), 1);
        Check.due("it stays", x.count(2), 44);
        Check.due("read again", x.read(), 2);
        Check.due("the first day", Check.read(x, "person 1800 1 1;"), 1);
        Check.due("the first day", x.age(0, 0), 0);
        Check.due("the last day", Check.read(x, "person 2199 12 31;"), 1);
        Check.due("the last day", x.age(0, 146095), -1);
        Check.due("the last day", x.age(0, 146096), 0);
        String two = "person 1900 1 1;person 1900 1 1;";
        Check.due("ties", Check.read(x, two + "with 0 1;with 1 0;with 0 1;apart 1 0;gate 3 1;"), 7);
        Check.no(x, "with is so", y -> y.pair(0, 1, 0));
        Check.no(x, "apart is so", y -> y.pair(0, 1, 1));
        Check.due("with lacks", x.why(1, 0, 73000), 3);
        Check.due("only with", Check.read(x, two + "with 1 0;"), 3);
        Check.due("apart is gone", x.pair(0, 1, 1), 1);
        Check.due("only apart", Check.read(x, two + "apart 0 1;"), 3);
        Check.due("with is gone", x.pair(0, 1, 0), 1);
        Check.due("eight people", Check.read(x, "person1900 1 1;".repeat(8)), 8);
        Check.due("eight people", x.count(0), 8);
        Check.due("four gates", Check.read(x, "gate 0 1;gate 1 2;gate 3 7;gate 4 8;"), 4);
        Check.due("four gates", x.count(1), 4);
        Check.due("status stays", x.status(0), 0);
    }

    private static void faults() {
        String p = "person 1900 1 1;";
        String eight = "person1900 1 1;".repeat(8);
        String four = "gate 0 8;gate 0 8;gate 0 8;gate 0 8;";
        fault("persons 1900 1 1;", 0);
        fault("perso 1900 1 1;", 0);
        fault(" per son", 1);
        fault("personz 1900 1 1;", 0);
        fault("ferson 1900 1 1;", 0);
        fault("late 0 8;", 0);
        fault("gatf 0 8;", 0);
        fault("gatewith 0 1;", 0);
        fault("Gate 0 8;", 0);
        fault("7;", 0);
        fault(";", 0);
        fault("gate 0 8;;", 9);
        fault("gate 0 8; ;", 10);
        fault("gate", 4);
        fault("gate  ", 6);
        fault("gate 0", 6);
        fault("gate 0 8", 8);
        fault("gate 0 8  ", 10);
        fault("gate 0 8 gate", 9);
        fault("gate 0 8gate", 8);
        fault("gate 0 8 1;", 9);
        fault("gate ;", 5);
        fault("gate 0;", 6);
        fault("gate gate 0;", 5);
        fault("gate 5 1;", 5);
        fault("gate 0 0;", 7);
        fault("gate 0 9;", 7);
        fault("gate 0 -1;", 7);
        fault("gate 00000 1;", 5);
        fault("gate 0 00001;", 7);
        fault("gate 0 8 00001", 9);
        fault("gate 08;", 5);
        fault("gate 03;", 7);
        fault("gate\t0 8;", 4);
        fault("gate 0\n8;", 6);
        fault("gate 0 8;" + (char) 0, 9);
        fault("gate 0 8" + (char) 255 + ";", 8);
        fault("gate 0 8;{", 9);
        fault("gate 0 8;`", 9);
        fault("gate 0 8:", 8);
        fault("gate 0 8/", 8);
        fault(four + " gate 0 8;", 37);
        fault(four + "gate", 36);
        fault(eight + "person 1900 1 1;", 120);
        fault(eight + " person", 121);
        fault("person 1799 1 1;", 7);
        fault("person 2200 1 1;", 7);
        fault("person 01900 1 1;", 7);
        fault("person 190 1 1;", 7);
        fault("person 1900 0 1;", 12);
        fault("person 1900 13 1;", 12);
        fault("person 1900 1 0;", 14);
        fault("person 1900 1 32;", 14);
        fault("person 1900 2 29;", 14);
        fault("person 2000 2 30;", 14);
        fault("person 1900 4 31;", 14);
        fault("person 1900 1;", 13);
        fault("person 19000101;", 7);
        fault("person 1900 1 1 1;", 16);
        fault("with 0 1;", 5);
        fault("apart 0 1;", 6);
        fault(p + "with 0 0;", 23);
        fault(p + "with 0 1;", 23);
        fault(p + "with 1 0;", 21);
        fault(p + "with 0 1;" + p, 23);
        fault(p + p + "with 0 1 1;", 41);
        fault(p + p + "apart 1 1;", 40);
        fault(p + p + "apart 1 2;", 40);
        fault(p + p + "apart 0 00001;", 40);
        fault(p + "with", 20);
        fault(p + "with 0", 22);
        fault(p + "with;", 20);
        fault(" ".repeat(199) + "g", 199);
        fault(" ".repeat(196) + "gate", 200);
    }

    /** It is told apart from a refusal: the promise calls it neither BAD, NO nor FULL, and all stays. */
    private static void fault(String text, int place) {
        AgesTens x = new AgesTens();
        Check.write(x, text);
        Check.looks(x, "read \"" + text + "\"", AgesTens::read, -10 - place);
    }

    private static void whatIsReadTakesThePlace() {
        AgesTens x = new AgesTens();
        for (int p = 0; p < 8; p++) {
            x.person(p);
        }
        x.gate(0, 8);
        x.gate(1, 8);
        x.pair(0, 1, 0);
        x.pair(0, 1, 1);
        x.crowd(3, 3);
        x.passing(1, 5, true);
        x.liars(2);
        Check.due("read", Check.read(x, "person 1900 1 1;person 1900 1 1;gate 3 2;"), 3);
        Check.due("people", x.count(0), 2);
        Check.due("gates", x.count(1), 1);
        Check.due("passings stay", x.count(3), 1);
        Check.due("crowds stay", x.crowd(3, 3), 3);
        Check.due("liars stay", x.liars(2), 2);
        Check.due("with is gone", x.pair(0, 1, 0), 1);
        Check.due("apart is gone", x.pair(0, 1, 1), 1);
        Check.due("more people come behind", x.person(7), 2);
        Check.due("a new one is with nobody", x.pair(2, 0, 0), 1);
        x.clear();
        Check.due("an empty one", x.read(), 0);
        Check.due("no people", x.count(0), 0);
        Check.due("no gates", x.count(1), 0);
    }

    private static void aFaultChangesNothing() {
        AgesTens x = new AgesTens();
        x.person(40000);
        x.person(50000);
        x.pair(0, 1, 0);
        x.gate(2, 3);
        Check.write(x, "person 1900 1 1;gate 0 8;gate 0 8;person 1901 1 1;apart 0 1;nothing");
        Check.looks(x, "a late fault", AgesTens::read, -10 - 60);
        Check.due("people", x.count(0), 2);
        Check.due("age", x.age(1, 50000), 0);
        Check.no(x, "with stays", y -> y.pair(1, 0, 0));
        Check.due("no apart", x.pair(1, 0, 1), 1);
    }
}
