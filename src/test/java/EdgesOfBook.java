/** Sentences of Terms about THE BOOK, and promises 9 (type), 10 (clear), 11 (read). */
final class EdgesOfBook {
    private static final String PERSON = "person1800 1 1;";
    private static final String TWO = PERSON + PERSON;
    private static final String GATE = "gate0 1;";

    private EdgesOfBook() { }

    static void run() {
        twoHundredBytes();
        typeHowManyBytes();
        typeTheLowestBytes();
        typeFull();
        clearHowManyItHad();
        clearOfAnEmptyOne();
        clearLeavesWhatWasRead();
        itemsEndedBySemicolons();
        personYear();
        personMonth();
        personDayOfTheMonth();
        gateLawAndSeats();
        tiesOfPeopleAhead();
        tiesOfUnlike();
        wordsOfLetters();
        figuresOneToFour();
        blanksAnyNumber();
        blanksNeeded();
        faultOfAWordThatIsNone();
        faultOfAWordWithAnotherLetter();
        faultOfA9thPerson();
        faultOfA5thGate();
        faultOfFiveFigures();
        faultOfANumberNotAsTold();
        faultOfADayTheMonthHasNot();
        faultOfAByteThatBeginsNone();
        faultOfATokenThatCanNotStandThere();
        faultOfTheFirstToken();
        faultOfATextThatEndsTooEarly();
        emptyOrOfBlanks();
        takesThePlaceOfAll();
        readHowManyItems();
        readWithAFault();
        readStays();
    }

    private static AgesTens with(String text) {
        AgesTens x = Edge.of(1, 3, 7, 9);
        x.pair(0, 1, 0);
        type(x, text);
        return x;
    }

    private static void type(AgesTens x, String text) {
        for (int from = 0; from < text.length(); from += 8) {
            int n = Math.min(8, text.length() - from);
            long v = 0;
            for (int i = from; i < from + n; i++) {
                v = v << 8 | text.charAt(i);
            }
            x.type(v, n);
        }
    }

    private static void items(String text, int many) {
        Edge.takes(() -> with(text), "'" + text + "'", x -> x.read(), many);
    }

    /** A FAULT leaves all as it is, STATUS too. */
    private static void fault(String text, int place) {
        Edge.looks(() -> with(text), "'" + text + "'", x -> x.read(), -10 - place);
    }

    /** The FAULT is told by where a word or sign stands for the last time. */
    private static void faultAtLast(String text, String token) {
        fault(text, text.lastIndexOf(token));
    }

    // ---- promise 9

    private static AgesTens withBytes(int many) {
        return with(" ".repeat(many));
    }

    private static void twoHundredBytes() {
        Edge.told(Edge.TERMS, "THE BOOK is a TEXT (200 bytes at most)");
        Edge.takes(() -> withBytes(199), "the 200th byte", x -> x.type(32, 1), 200);
        Edge.full(() -> withBytes(200), "the 201st byte", x -> x.type(32, 1));
    }

    private static void typeHowManyBytes() {
        Edge.told(9, "The lowest n (1 .. 8) bytes of v");
        Edge.range(Edge::empty, "type 5 n", (x, n) -> x.type(5, n), 1, 1, 8, 8, -2);
        Edge.range(Edge::busy, "type -1 n behind 16", (x, n) -> x.type(-1, n), 1, 17, 8, 24, -2);
    }

    private static long digestOfBytes(int... bytes) {
        AgesTens x = new AgesTens();
        for (int b : bytes) {
            x.type(b, 1);
        }
        return x.digest();
    }

    private static long digestOfTyped(long v, int n) {
        AgesTens x = new AgesTens();
        x.type(v, n);
        return x.digest();
    }

    private static void typeTheLowestBytes() {
        Edge.told(9, "the highest of them first, come to THE BOOK: how many it has.");
        long v = 0x0102030405060708L;
        Edge.due("1 of 8", digestOfTyped(v, 1), digestOfBytes(8));
        Edge.due("2 of 8", digestOfTyped(v, 2), digestOfBytes(7, 8));
        Edge.due("7 of 8", digestOfTyped(v, 7), digestOfBytes(2, 3, 4, 5, 6, 7, 8));
        Edge.due("8 of 8", digestOfTyped(v, 8), digestOfBytes(1, 2, 3, 4, 5, 6, 7, 8));
        Edge.due("the highest bit of v", digestOfTyped(Long.MIN_VALUE, 8), digestOfBytes(128, 0, 0, 0, 0, 0, 0, 0));
        Edge.due("-1", digestOfTyped(-1, 3), digestOfBytes(255, 255, 255));
        Edge.due("the greatest v", digestOfTyped(Long.MAX_VALUE, 8),
            digestOfBytes(127, 255, 255, 255, 255, 255, 255, 255));
        Edge.due("256 has a lowest byte of 0", digestOfTyped(256, 1), digestOfBytes(0));
        AgesTens x = with("");
        type(x, "gate4 8;");
        Edge.due("they are read in their order", x.read(), 1);
    }

    private static void typeFull() {
        Edge.told(9, "BAD; FULL.");
        for (int n = 1; n <= 8; n++) {
            int many = n;
            Edge.takes(() -> withBytes(200 - many), "the last " + n, x -> x.type(-1, many), 200);
            Edge.full(() -> withBytes(201 - many), "one too many by " + n, x -> x.type(-1, many));
            Edge.full(() -> withBytes(200), "behind 200, " + n, x -> x.type(-1, many));
        }
        Edge.outside(Edge::brimful, "BAD is ahead of FULL: type 0 n", (x, n) -> x.type(0, n), 1, 8, -2);
    }

    // ---- promise 10

    private static void clearHowManyItHad() {
        Edge.told(10, "THE BOOK is empty: how many it had");
        for (int many : new int[] {1, 199, 200}) {
            AgesTens x = withBytes(many);
            Edge.due("clear of " + many, x.clear(), many);
            Edge.due("none are left", x.count(2), 0);
            Edge.due("there is place again", x.type(0, 8), 8);
        }
    }

    private static void clearOfAnEmptyOne() {
        Edge.told(10, "THE BOOK is empty");
        Edge.looks(Edge::empty, "clear of a new object", x -> x.clear(), 0);
        Edge.looks(() -> with(""), "clear of an empty one", x -> x.clear(), 0);
        AgesTens x = with("gate0");
        x.clear();
        Edge.due("clear again", x.clear(), 0);
        Edge.due("an empty one has no FAULT", x.read(), 0);
    }

    private static void clearLeavesWhatWasRead() {
        Edge.told(10, "(what was read stays)");
        AgesTens x = with(TWO + GATE + "with0 1;");
        x.read();
        x.clear();
        Edge.due("PEOPLE", x.count(0), 2);
        Edge.due("GATES", x.count(1), 1);
        Edge.due("WITH", x.pair(0, 1, 0), -3);
    }

    // ---- what stands in it

    private static void itemsEndedBySemicolons() {
        Edge.told(Edge.TERMS, "of ITEMS, each ended by ;");
        items(GATE, 1);
        items(GATE + GATE, 2);
        fault("gate0 1", 7);
        fault(GATE + "gate0 1", 15);
        fault("gate0 1 gate0 1;", 8);
        fault(";", 0);
        fault(GATE + ";", 8);
    }

    private static void personYear() {
        Edge.told(Edge.TERMS, "person YEAR MONTH DAY (of the MONTH)");
        items("person 1800 1 1;", 1);
        items("person 2199 12 31;", 1);
        fault("person 1799 12 31;", 7);
        fault("person 2200 1 1;", 7);
        fault("person 0 1 1;", 7);
        fault("person 9999 1 1;", 7);
        AgesTens x = with("person 2199 12 31;person 1800 1 1;");
        x.read();
        Edge.due("the first of them is of the last DAY", x.age(0, Edge.LAST_DAY - 1), -1);
        Edge.due("and born on it", x.age(0, Edge.LAST_DAY), 0);
        Edge.due("the other of the first DAY", x.age(1, 0), 0);
    }

    private static void personMonth() {
        Edge.told(Edge.TERMS, "a number not as told");
        items("person 1999 1 1;", 1);
        items("person 1999 12 1;", 1);
        fault("person 1999 0 1;", 12);
        fault("person 1999 13 1;", 12);
        fault("person 1999 9999 1;", 12);
    }

    private static void personDayOfTheMonth() {
        Edge.told(Edge.TERMS, "DAY (of the MONTH)");
        int[] last = {31, 28, 31, 30, 31, 30, 31, 31, 30, 31, 30, 31};
        for (int month = 1; month <= 12; month++) {
            String ahead = "person 1999 " + month + " ";
            items(ahead + "1;", 1);
            items(ahead + last[month - 1] + ";", 1);
            fault(ahead + "0;", ahead.length());
            fault(ahead + (last[month - 1] + 1) + ";", ahead.length());
        }
    }

    private static void gateLawAndSeats() {
        Edge.told(Edge.TERMS, "gate LAW SEATS");
        items("gate 0 1;", 1);
        items("gate 4 8;", 1);
        fault("gate 5 1;", 5);
        fault("gate 9999 1;", 5);
        fault("gate 0 0;", 7);
        fault("gate 0 9;", 7);
        fault("gate 0 9999;", 7);
    }

    private static void tiesOfPeopleAhead() {
        Edge.told(Edge.TERMS, "with a b; apart a b (PEOPLE ahead, unlike)");
        for (String word : new String[] {"with", "apart"}) {
            items(TWO + word + " 0 1;", 3);
            items(TWO + word + " 1 0;", 3);
            faultAtLast(TWO + word + " 2 0;", "2");
            faultAtLast(TWO + word + " 0 2;", "2");
            faultAtLast(TWO + word + " 9999 0;", "9999");
            faultAtLast(TWO + word + " 0 2;" + PERSON, "2");
            fault(word + " 0 1;", word.length() + 1);
            faultAtLast(PERSON + word + " 0 1;", "1");
            items(PERSON.repeat(8) + word + " 0 7;" + word + " 7 6;", 10);
            faultAtLast(PERSON.repeat(8) + word + " 0 8;", "8");
        }
    }

    private static void tiesOfUnlike() {
        Edge.told(Edge.TERMS, "(PEOPLE ahead, unlike)");
        for (String word : new String[] {"with", "apart"}) {
            faultAtLast(TWO + word + " 0 0;", "0");
            faultAtLast(TWO + word + " 1 1;", "1");
        }
        items(TWO + "with 0 1;apart 0 1;", 4);
        items(TWO + "with 0 1;with 1 0;", 4);
    }

    private static void wordsOfLetters() {
        Edge.told(Edge.TERMS, "words of letters a .. z");
        fault("a", 0);
        fault("z", 0);
        fault(GATE + "gatez", 8);
        fault(GATE + "agate", 8);
        fault("`", 0);
        fault("{", 0);
        fault("gate`0 1;", 4);
        fault("gate{0 1;", 4);
        fault("Gate0 1;", 0);
        fault("gaTe0 1;", 0);
    }

    private static void figuresOneToFour() {
        Edge.told(Edge.TERMS, "figures (1 to 4 are one number)");
        items("gate 4 8;", 1);
        items("gate 04 08;", 1);
        items("gate 004 008;", 1);
        items("gate 0004 0008;", 1);
        fault("gate 00004 8;", 5);
        fault("gate 4 00008;", 7);
        items("person 1800 0001 0001;", 1);
        fault("gate/0 1;", 4);
        fault("gate:0 1;", 4);
    }

    private static void blanksAnyNumber() {
        Edge.told(Edge.TERMS, "blanks (32), any number, ahead of, between and behind TOKENS");
        items("   " + GATE, 1);
        items(GATE + "   ", 1);
        items("gate     0     1     ;", 1);
        items(" ".repeat(192) + GATE, 1);
        items(GATE + " ".repeat(192), 1);
        items("gate" + " ".repeat(192) + "0 1;", 1);
        fault("gate\t0 1;", 4);
        fault("gate\n0 1;", 4);
        fault("gate" + (char) 31 + "0 1;", 4);
        fault("gate" + (char) 33 + "0 1;", 4);
        fault("gate" + (char) 160 + "0 1;", 4);
        fault("gate" + (char) 0 + "0 1;", 4);
    }

    private static void blanksNeeded() {
        Edge.told(Edge.TERMS, "(needed only between two words, two numbers)");
        items("person1800 1 1;gate0 1;", 2);
        items(TWO + "with0 1;apart0 1;", 4);
        fault("gategate0 1;", 0);
        fault("gate01;", 6);
        fault("person180011;", 6);
    }

    // ---- the FAULT

    private static void faultOfAWordThatIsNone() {
        Edge.told(Edge.TERMS, "a word that is none");
        String[] none = {"persons", "perso", "person0a", "gat", "gates", "wit", "withh", "apar", "aparts", "x"};
        for (String word : none) {
            int place = word.equals("person0a") ? 6 : 0;
            fault(word + " 0 1;", place);
            fault(" " + GATE + word + " 0 1;", 9 + place);
        }
    }

    private static void faultOfAWordWithAnotherLetter() {
        Edge.told(Edge.TERMS, "(a word that is none");
        String[] items = {"person 1800 1 1;", GATE, "with 0 1;", "apart 0 1;"};
        for (String item : items) {
            items(TWO + item, 3);
            for (int i = 0; item.charAt(i) >= 'a'; i++) {
                String wrong = item.substring(0, i) + 'q' + item.substring(i + 1);
                fault(TWO + wrong, TWO.length());
            }
        }
    }

    private static void faultOfA9thPerson() {
        Edge.told(Edge.TERMS, "a 9th person");
        String eight = PERSON.repeat(8);
        items(eight, 8);
        fault(eight + PERSON, 120);
        fault(eight + " person", 121);
        fault(eight + "person;", 120);
        items(eight + GATE, 9);
    }

    private static void faultOfA5thGate() {
        Edge.told(Edge.TERMS, "a 5th gate at its word");
        String four = GATE.repeat(4);
        items(four, 4);
        fault(four + GATE, 32);
        fault(four + " gate", 33);
        fault(four + "gate9 9;", 32);
        items(four + PERSON, 5);
    }

    private static void faultOfFiveFigures() {
        Edge.told(Edge.TERMS, "a run of five figures or more (at its first one)");
        fault("gate 00000 1;", 5);
        fault("gate 0 00001;", 7);
        fault("person 01800 1 1;", 7);
        fault("person 18000 1 1;", 7);
        fault("gate 0 " + "1".repeat(193), 7);
        fault("1".repeat(200), 0);
        fault("gate 4294967296 1;", 5);
    }

    private static void faultOfANumberNotAsTold() {
        Edge.told(Edge.TERMS, "a number not as told");
        fault("gate 5 9;", 5);
        fault("gate 4 9;", 7);
        fault("person 1799 13 32;", 7);
        fault("person 1800 13 32;", 12);
        fault("person 1800 12 32;", 15);
        faultAtLast(TWO + "with 3 3;", "3 3");
    }

    private static void faultOfADayTheMonthHasNot() {
        Edge.told(Edge.TERMS, "also a DAY that the MONTH has not");
        fault("person 1999 2 29;", 14);
        fault("person 1900 2 29;", 14);
        fault("person 2100 2 29;", 14);
        items("person 2000 2 29;", 1);
        items("person 1904 2 29;", 1);
        fault("person 2000 2 30;", 14);
        fault("person 1999 4 31;", 14);
    }

    private static void faultOfAByteThatBeginsNone() {
        Edge.told(Edge.TERMS, "a byte that begins none, too");
        for (int b = 0; b <= 255; b++) {
            boolean begins = b == ' ' || b == ';' || b >= '0' && b <= '9' || b >= 'a' && b <= 'z';
            if (!begins) {
                fault(GATE + (char) b, 8);
                fault("gate0 1" + (char) b, 7);
            }
        }
        fault("-1", 0);
        fault("gate -1 1;", 5);
        fault("gate 0,1;", 6);
    }

    private static void faultOfATokenThatCanNotStandThere() {
        Edge.told(Edge.TERMS, "the place of the first byte of the first TOKEN that can not stand there");
        fault("0", 0);
        fault("  0", 2);
        fault("gate;", 4);
        fault("gate 0;", 6);
        fault("gate person;", 5);
        fault("gate 0 1 1;", 9);
        fault("gate 0 1 person;", 9);
        fault("gate 0 1;;", 9);
        fault("person 1800 1;", 13);
        fault("with;", 4);
        fault("apart with", 6);
        fault(GATE.repeat(4) + " ".repeat(167) + "x", 199);
    }

    private static void faultOfTheFirstToken() {
        Edge.told(Edge.TERMS, "the first TOKEN");
        fault("gate 5 9;x", 5);
        fault("gate 0 9;gate 5 1;", 7);
        fault(GATE + "x;y;", 8);
        fault("? x 99999", 0);
    }

    private static void faultOfATextThatEndsTooEarly() {
        Edge.told(Edge.TERMS, "the TEXT's length, if it ends too early");
        fault("gate", 4);
        fault("gate ", 5);
        fault("gate 0", 6);
        fault("gate 0 1", 8);
        fault("gate 0 1   ", 11);
        fault("person", 6);
        fault("person 1800", 11);
        fault("person 1800 1", 13);
        fault("person 1800 1 1", 15);
        fault(TWO + "with", 34);
        fault(TWO + "apart 0", 37);
        fault(TWO + "apart 0 1", 39);
        fault("gate 0 1" + " ".repeat(192), 200);
        fault(" ".repeat(196) + "gate", 200);
    }

    private static void emptyOrOfBlanks() {
        Edge.told(Edge.TERMS, "(an empty one, one of blanks alone: none)");
        items("", 0);
        items(" ", 0);
        items(" ".repeat(199), 0);
        items(" ".repeat(200), 0);
        Edge.looks(Edge::empty, "the BOOK of a new object", x -> x.read(), 0);
    }

    private static void takesThePlaceOfAll() {
        Edge.told(Edge.TERMS, "A BOOK that is read takes the place of all PEOPLE, GATES, WITH, APART.");
        AgesTens x = with(TWO + "apart0 1;");
        x.read();
        Edge.due("PEOPLE", x.count(0), 2);
        Edge.due("no GATES", x.count(1), 0);
        Edge.due("APART is told", x.pair(0, 1, 1), -3);
        Edge.due("WITH is gone", x.pair(0, 1, 0), 1);
        AgesTens y = with(" ");
        y.read();
        Edge.due("blanks: no PEOPLE", y.count(0), 0);
        Edge.due("blanks: no GATES", y.count(1), 0);
        y.person(0);
        y.person(0);
        Edge.due("blanks: no WITH, also of those who come later", y.pair(0, 1, 0), 1);
        AgesTens tied = with(TWO + "with0 1;apart0 1;");
        tied.read();
        tied.clear();
        type(tied, TWO);
        tied.read();
        Edge.due("WITH of the BOOK ahead is gone", tied.pair(0, 1, 0), 1);
        Edge.due("APART of the BOOK ahead is gone", tied.pair(0, 1, 1), 1);
        AgesTens full = Edge.brimful();
        full.clear();
        type(full, PERSON.repeat(8) + GATE.repeat(4));
        Edge.due("as much as can be in the place of as much", full.read(), 12);
        Edge.due("a 9th person is FULL", full.person(0), -4);
        Edge.due("a 5th gate is FULL", full.gate(0, 1), -4);
    }

    private static void readHowManyItems() {
        Edge.told(11, "THE BOOK is read (it stays): how many ITEMS.");
        items(GATE, 1);
        items(PERSON.repeat(8) + GATE.repeat(4), 12);
        items(TWO + "with0 1;".repeat(21), 23);
        items(PERSON.repeat(8) + GATE.repeat(4) + "with0 1;".repeat(6), 18);
    }

    private static void readWithAFault() {
        Edge.told(11, "-10 less the FAULT: all stays.");
        fault("?", 0);
        fault(TWO + GATE + "with0 1;apart1 0;x", 55);
        fault(" ".repeat(199) + "?", 199);
        fault("gate0 1" + " ".repeat(193), 200);
        Edge.looks(Edge::brimful, "bytes 255", x -> x.read(), -10);
        Edge.looks(Edge::busy, "a person without its end", x -> x.read(), -26);
    }

    private static void readStays() {
        Edge.told(11, "(it stays)");
        AgesTens x = with(TWO + GATE);
        Edge.due("read", x.read(), 3);
        Edge.due("its bytes", x.count(2), 38);
        Edge.due("read again: in place of what was read", x.read(), 3);
        Edge.due("PEOPLE", x.count(0), 2);
        Edge.due("GATES", x.count(1), 1);
        type(x, "with0 1;");
        Edge.due("more behind it", x.read(), 4);
    }
}
