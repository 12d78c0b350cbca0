/** People with birthdays, gates with laws of their years, and what can be told of them: see README.md. */
public final class AgesTens {
    public static final int NONE = -1, BAD = -2, NO = -3, FULL = -4;

    private static final int NOT_SO_MANY = -5, BAD_BY_TEN = -10, IMAGES = 2;

    private final State now;
    private final State[] images;
    private final boolean[] kept;
    private final Roll draft;
    private final Reader reader;
    private final Judge judge;
    private final Parting parting;
    private final Sums sums;
    private final Fits ways;
    private int above, below;
    private int refusedBad, refusedNo, refusedFull;

    public AgesTens() {
        now = new State();
        images = new State[IMAGES];
        for (int i = 0; i < IMAGES; i++) {
            images[i] = new State();
        }
        kept = new boolean[IMAGES];
        draft = new Roll();
        reader = new Reader(now.book, draft);
        judge = new Judge(now.roll);
        parting = new Parting(judge);
        sums = new Sums(now.crowds);
        ways = new Fits(now.passings);
        above = 0;
        below = 1;
    }

    // ---- days, people, gates

    public int day(int year, int month, int day) {
        return Calendar.has(year, month, day) ? Calendar.numberOf(year, month, day) : refuse(BAD);
    }

    public int date(int day, int what) {
        if (!Calendar.isDay(day) || what < 0 || what > 2) {
            return refuse(BAD);
        }
        int year = Calendar.yearOf(day);
        if (what == 0) {
            return year;
        }
        int place = Calendar.placeOf(day, year);
        int month = Calendar.monthOf(place);
        return what == 1 ? month : place - Calendar.placeOfMonth(month) + 1;
    }

    public int person(int day) {
        if (!Calendar.isDay(day)) {
            return refuse(BAD);
        }
        return now.roll.people < Roll.MOST_PEOPLE ? now.roll.addPerson(day) : refuse(FULL);
    }

    public int gate(int law, int seats) {
        if (!Roll.isLaw(law) || !Roll.isSeats(seats)) {
            return refuse(BAD);
        }
        return now.roll.gates < Roll.MOST_GATES ? now.roll.addGate(law, seats) : refuse(FULL);
    }

    public int pair(int a, int b, int what) {
        Roll roll = now.roll;
        if (!roll.hasPerson(a) || !roll.hasPerson(b) || a == b || what < 0 || what > 1) {
            return refuse(BAD);
        }
        return Roll.tie(what == 0 ? roll.with : roll.apart, a, b) ? 1 : refuse(NO);
    }

    public int age(int person, int day) {
        if (!now.roll.hasPerson(person) || !Calendar.isDay(day)) {
            return refuse(BAD);
        }
        return now.roll.yearsOf(person, day, Calendar.yearOf(day));
    }

    public int why(int company, int gate, int day) {
        if (!now.roll.hasCompany(company) || !isPlace(gate, day)) {
            return refuseAs(BAD, BAD_BY_TEN);
        }
        judge.standOn(day);
        return judge.reason(company, gate);
    }

    public int type(long v, int n) {
        if (n < 1 || n > 8) {
            return refuse(BAD);
        }
        return now.book.length + n <= Book.MOST ? now.book.append(v, n) : refuse(FULL);
    }

    public int clear() {
        int had = now.book.length;
        now.book.length = 0;
        return had;
    }

    public int read() {
        int items = reader.takeBook();
        if (items >= 0) {
            now.roll.copyFrom(draft);
        }
        return items;
    }

    // ---- companies

    public int can(int gate, int day, int k, int i) {
        if (!isPlace(gate, day) || k < 0 || k > Roll.MOST_PEOPLE || i < NONE) {
            return refuseAs(BAD, BAD_BY_TEN);
        }
        judge.standOn(day);
        int seen = 0;
        for (int company = 1; company <= now.roll.everyone(); company++) {
            if ((k == 0 || Integer.bitCount(company) == k) && judge.reason(company, gate) == 0) {
                if (seen == i) {
                    return company;
                }
                seen++;
            }
        }
        return i == NONE ? seen : NOT_SO_MANY;
    }

    public int over(int set, int gate, int day, int what) {
        if (!now.roll.hasSet(set) || !isPlace(gate, day) || what < 0 || what > 2) {
            return refuse(BAD);
        }
        judge.standOn(day);
        parting.deal(set, gate);
        if (what == 0) {
            return Integer.bitCount(parting.left);
        }
        return what == 1 ? parting.many : parting.left;
    }

    public int parts(int set, int gate, int day, int i) {
        if (!now.roll.hasSet(set) || !isPlace(gate, day) || i < 0) {
            return refuseAs(BAD, BAD_BY_TEN);
        }
        judge.standOn(day);
        parting.deal(set, gate);
        return i < parting.many ? parting.companies[i] : NOT_SO_MANY;
    }

    public int lent(int set, int gate, int day) {
        if (!now.roll.hasSet(set) || !isPlace(gate, day)) {
            return refuse(BAD);
        }
        judge.standOn(day);
        int least = NONE;
        int fewest = Roll.MOST_PEOPLE + 1;
        for (int company = 1; company <= now.roll.everyone(); company++) {
            int others = company & ~set;
            boolean fewer = Integer.bitCount(others) < fewest;
            // Ascending companies that all hold the set hold ascending others: the first of like ones stays.
            if ((company & set) == set && fewer && judge.reason(company, gate) == 0) {
                least = others;
                fewest = Integer.bitCount(others);
            }
        }
        return least;
    }

    public int worth(int person, int gate, int day) {
        if (!now.roll.hasPerson(person) || !isPlace(gate, day)) {
            return refuse(BAD);
        }
        judge.standOn(day);
        int many = 0;
        for (int company = 1; company <= now.roll.everyone(); company++) {
            if ((company >> person & 1) != 0 && judge.reason(company, gate) == 0) {
                many++;
            }
        }
        return many;
    }

    public int dates(int company, int gate, int year) {
        if (!now.roll.hasCompany(company) || !now.roll.hasGate(gate) || !Calendar.isYear(year)) {
            return refuse(BAD);
        }
        return judge.daysOfYear(company, gate, year);
    }

    public int next(int company, int gate, int day) {
        if (!now.roll.hasCompany(company) || !isPlace(gate, day)) {
            return refuse(BAD);
        }
        return judge.firstDay(company, gate, day);
    }

    public int wedding(int one, int other, int gate, int day) {
        if (!now.roll.hasSet(one) || !now.roll.hasSet(other) || (one & other) != 0 || !isPlace(gate, day)) {
            return refuse(BAD);
        }
        return parting.firstDayForBoth(one, other, gate, day);
    }

    // ---- crowds, ages untold

    public int crowd(int r, int n) {
        if (r < 0 || r >= Sums.RESTS || n < 0 || n > Sums.MOST_ALIKE) {
            return refuse(BAD);
        }
        int was = now.crowds[r];
        now.crowds[r] = n;
        return was;
    }

    public long tens(int k) {
        if (k < 0 || k > Sums.MOST) {
            return refuse(BAD);
        }
        sums.countSets();
        return sums.setsOfTens(k);
    }

    public int spare() {
        int all = sums.countSets();
        for (int k = all; k >= 1; k--) {
            if (sums.setsOfTens(k) > 0) {
                return all - k;
            }
        }
        return all;
    }

    public int passing(int set, int known, boolean let) {
        if (set < 1 || set >= 1 << Passings.UNTOLD || known < 0 || known > 99) {
            return refuse(BAD);
        }
        return now.passings.many < Passings.MOST ? now.passings.append(set, known, let) : refuse(FULL);
    }

    public int forget() {
        return now.passings.drop();
    }

    public int liars(int n) {
        return n < 0 || n > 3 ? refuse(BAD) : now.passings.allow(n);
    }

    public int fits(int i) {
        if (i < NONE) {
            return refuseAs(BAD, BAD_BY_TEN);
        }
        int all = ways.countAll();
        if (i == NONE) {
            return all;
        }
        return i < all ? ways.pick(i) : NOT_SO_MANY;
    }

    public int untold(int one, int r) {
        if (one < 0 || one >= Passings.UNTOLD || r < 0 || r > 9) {
            return refuse(BAD);
        }
        int all = ways.countAll();
        if (all == 0) {
            return refuse(NO);
        }
        setFraction(ways.countWith(one, r), all);
        return 1;
    }

    // ---- what there is

    public int part(int what) {
        if (what < 0 || what > 1) {
            return refuse(BAD);
        }
        return what == 0 ? above : below;
    }

    public int image(int i) {
        if (i < 0 || i >= IMAGES) {
            return refuse(BAD);
        }
        images[i].copyFrom(now);
        kept[i] = true;
        return 1;
    }

    public int from(int i) {
        if (i < 0 || i >= IMAGES) {
            return refuse(BAD);
        }
        if (!kept[i]) {
            return refuse(NO);
        }
        now.copyFrom(images[i]);
        return 1;
    }

    public int status(int what) {
        switch (what) {
            case 0: return refusedBad;
            case 1: return refusedNo;
            case 2: return refusedFull;
            default: return refuseAs(BAD, -1);
        }
    }

    public int count(int what) {
        switch (what) {
            case 0: return now.roll.people;
            case 1: return now.roll.gates;
            case 2: return now.book.length;
            case 3: return now.passings.many;
            default: return refuse(BAD);
        }
    }

    public long digest() {
        return 31 * (31 * now.digestFrom(641) + above) + below;
    }

    private boolean isPlace(int gate, int day) {
        return now.roll.hasGate(gate) && Calendar.isDay(day);
    }

    private int refuse(int reason) {
        return refuseAs(reason, reason);
    }

    private int refuseAs(int reason, int answer) {
        if (reason == BAD) {
            refusedBad++;
        } else if (reason == NO) {
            refusedNo++;
        } else {
            refusedFull++;
        }
        return answer;
    }

    private void setFraction(int some, int all) {
        int a = all;
        int b = some;
        // Euclid's steps for numbers up to 100000 are fewer than 30.
        for (int step = 0; step < 64 && b != 0; step++) {
            int rest = a % b;
            a = b;
            b = rest;
        }
        if (a > 0) {
            above = some / a;
            below = all / a;
        }
    }

    /** Days by number; a PLACE is a date's index in a leap year, so that one table serves all years. */
    private static final class Calendar {
        static final int FIRST_YEAR = 1800, LAST_YEAR = 2199, LAST_DAY = 146096;
        /** How many leap years there are from year 1 to 1799. */
        private static final int LEAPS_BEFORE = 436;
        private static final int LEAP_PLACE = 59;
        private static final int[] MONTH_PLACES = {0, 31, 60, 91, 121, 152, 182, 213, 244, 274, 305, 335, 366};

        static boolean isDay(int day) {
            return day >= 0 && day <= LAST_DAY;
        }

        static boolean isYear(int year) {
            return year >= FIRST_YEAR && year <= LAST_YEAR;
        }

        static boolean has(int year, int month, int day) {
            return isYear(year) && month >= 1 && month <= 12 && day >= 1 && day <= daysOfMonth(year, month);
        }

        static boolean isLeap(int year) {
            return year % 4 == 0 && (year % 100 != 0 || year % 400 == 0);
        }

        static int daysOfMonth(int year, int month) {
            int days = placeOfMonth(month + 1) - placeOfMonth(month);
            return month == 2 && !isLeap(year) ? days - 1 : days;
        }

        static int placeOfMonth(int month) {
            return month >= 1 && month <= 13 ? MONTH_PLACES[month - 1] : 0;
        }

        static int firstDayOf(int year) {
            int last = year - 1;
            int leaps = last / 4 - last / 100 + last / 400;
            return 365 * (year - FIRST_YEAR) + leaps - LEAPS_BEFORE;
        }

        static int numberOf(int year, int month, int day) {
            return dayInYear(year, placeOfMonth(month) + day - 1);
        }

        /** The 29th of February's place is, in other years, the first of March: as birthdays have it. */
        static int dayInYear(int year, int place) {
            int index = place > LEAP_PLACE && !isLeap(year) ? place - 1 : place;
            return firstDayOf(year) + index;
        }

        static int yearOf(int day) {
            int year = FIRST_YEAR + day / 366;
            // Four centuries of days are short of 366 a year by less than one year.
            for (int step = 0; step < 2 && firstDayOf(year + 1) <= day; step++) {
                year++;
            }
            return year;
        }

        static int placeOf(int day, int year) {
            int index = day - firstDayOf(year);
            return index >= LEAP_PLACE && !isLeap(year) ? index + 1 : index;
        }

        static int monthOf(int place) {
            int month = 1;
            while (month < 12 && placeOfMonth(month + 1) <= place) {
                month++;
            }
            return month;
        }
    }

    /** PEOPLE, GATES, WITH and APART: what a BOOK tells. */
    private static final class Roll {
        static final int MOST_PEOPLE = 8, MOST_GATES = 4, LAST_LAW = 4, MOST_SEATS = 8;

        int people, gates;
        final int[] born = new int[MOST_PEOPLE];
        final int[] bornYear = new int[MOST_PEOPLE];
        final int[] bornPlace = new int[MOST_PEOPLE];
        final int[] with = new int[MOST_PEOPLE];
        final int[] apart = new int[MOST_PEOPLE];
        final int[] law = new int[MOST_GATES];
        final int[] seats = new int[MOST_GATES];

        static boolean isLaw(int law) {
            return law >= 0 && law <= LAST_LAW;
        }

        static boolean isSeats(int seats) {
            return seats >= 1 && seats <= MOST_SEATS;
        }

        boolean hasPerson(int person) {
            return person >= 0 && person < people;
        }

        boolean hasGate(int gate) {
            return gate >= 0 && gate < gates;
        }

        int everyone() {
            return (1 << people) - 1;
        }

        boolean hasSet(int set) {
            return set >= 0 && set <= everyone();
        }

        boolean hasCompany(int company) {
            return company != 0 && hasSet(company);
        }

        void empty() {
            people = 0;
            gates = 0;
        }

        int addPerson(int day) {
            if (people >= MOST_PEOPLE) {
                return FULL;
            }
            born[people] = day;
            bornYear[people] = Calendar.yearOf(day);
            bornPlace[people] = Calendar.placeOf(day, bornYear[people]);
            with[people] = 0;
            apart[people] = 0;
            return people++;
        }

        int addGate(int itsLaw, int itsSeats) {
            if (gates >= MOST_GATES) {
                return FULL;
            }
            law[gates] = itsLaw;
            seats[gates] = itsSeats;
            return gates++;
        }

        /** Whether it was not so before. */
        static boolean tie(int[] ties, int a, int b) {
            if ((ties[a] >> b & 1) != 0) {
                return false;
            }
            ties[a] |= 1 << b;
            ties[b] |= 1 << a;
            return true;
        }

        int yearsOf(int person, int day, int year) {
            if (day < born[person]) {
                return NONE;
            }
            int years = year - bornYear[person];
            return day < Calendar.dayInYear(year, bornPlace[person]) ? years - 1 : years;
        }

        int birthdayBehind(int person, int day, int year) {
            if (day < born[person]) {
                return born[person];
            }
            int birthday = Calendar.dayInYear(year, bornPlace[person]);
            return birthday > day ? birthday : Calendar.dayInYear(year + 1, bornPlace[person]);
        }

        void copyFrom(Roll other) {
            people = other.people;
            gates = other.gates;
            System.arraycopy(other.born, 0, born, 0, MOST_PEOPLE);
            System.arraycopy(other.bornYear, 0, bornYear, 0, MOST_PEOPLE);
            System.arraycopy(other.bornPlace, 0, bornPlace, 0, MOST_PEOPLE);
            System.arraycopy(other.with, 0, with, 0, MOST_PEOPLE);
            System.arraycopy(other.apart, 0, apart, 0, MOST_PEOPLE);
            System.arraycopy(other.law, 0, law, 0, MOST_GATES);
            System.arraycopy(other.seats, 0, seats, 0, MOST_GATES);
        }
    }

    /** THE BOOK's bytes, each 0 .. 255. */
    private static final class Book {
        static final int MOST = 200;

        int length;
        final int[] bytes = new int[MOST];

        int append(long v, int n) {
            for (int i = n - 1; i >= 0 && length < MOST; i--) {
                bytes[length] = (int) (v >> 8 * i & 255);
                length++;
            }
            return length;
        }

        int at(int place) {
            return place >= 0 && place < length ? bytes[place] : NONE;
        }

        void copyFrom(Book other) {
            length = other.length;
            System.arraycopy(other.bytes, 0, bytes, 0, MOST);
        }
    }

    /** Reads a BOOK into a draft, so that what there is stays if the BOOK has a FAULT. */
    private static final class Reader {
        private static final int END = 0, WORD = 1, NUMBER = 2, SEMICOLON = 3, WRONG = 4;
        private static final int LONGEST_NUMBER = 4;

        private final Book book;
        private final Roll draft;
        /** The TOKEN taken last: its first byte's place and the place behind it. */
        private int start, end;
        private int kind, value;

        Reader(Book book, Roll draft) {
            this.book = book;
            this.draft = draft;
        }

        /** How many ITEMS, or -10 less the FAULT: the TOKEN at which something could not be taken. */
        int takeBook() {
            draft.empty();
            end = 0;
            int items = 0;
            takeToken();
            while (items <= Book.MOST && kind != END) {
                if (!takeContent() || !takeSemicolon()) {
                    return BAD_BY_TEN - start;
                }
                items++;
                takeToken();
            }
            return items;
        }

        private boolean takeContent() {
            if (isWord("person")) {
                return takePerson();
            }
            if (isWord("gate")) {
                return takeGate();
            }
            if (isWord("with")) {
                return takeTie(draft.with);
            }
            return isWord("apart") && takeTie(draft.apart);
        }

        private boolean takePerson() {
            if (draft.people >= Roll.MOST_PEOPLE || !takeNumber(Calendar.FIRST_YEAR, Calendar.LAST_YEAR)) {
                return false;
            }
            int year = value;
            if (!takeNumber(1, 12)) {
                return false;
            }
            int month = value;
            if (!takeNumber(1, Calendar.daysOfMonth(year, month))) {
                return false;
            }
            draft.addPerson(Calendar.numberOf(year, month, value));
            return true;
        }

        private boolean takeGate() {
            if (draft.gates >= Roll.MOST_GATES || !takeNumber(0, Roll.LAST_LAW)) {
                return false;
            }
            int law = value;
            if (!takeNumber(1, Roll.MOST_SEATS)) {
                return false;
            }
            draft.addGate(law, value);
            return true;
        }

        private boolean takeTie(int[] ties) {
            if (!takeNumber(0, draft.people - 1)) {
                return false;
            }
            int a = value;
            if (!takeNumber(0, draft.people - 1) || value == a) {
                return false;
            }
            // A tie told twice is no FAULT: the document names none.
            Roll.tie(ties, a, value);
            return true;
        }

        private boolean takeSemicolon() {
            takeToken();
            return kind == SEMICOLON;
        }

        private boolean takeNumber(int least, int most) {
            takeToken();
            if (kind != NUMBER || end - start > LONGEST_NUMBER) {
                return false;
            }
            value = 0;
            for (int i = start; i < end; i++) {
                value = 10 * value + book.at(i) - '0';
            }
            return value >= least && value <= most;
        }

        private boolean isWord(String word) {
            if (kind != WORD || end - start != word.length()) {
                return false;
            }
            for (int i = 0; i < word.length(); i++) {
                if (book.at(start + i) != word.charAt(i)) {
                    return false;
                }
            }
            return true;
        }

        private void takeToken() {
            while (end < book.length && book.at(end) == ' ') {
                end++;
            }
            start = end;
            kind = kindOf(book.at(start));
            if (kind == WORD || kind == NUMBER) {
                while (end < book.length && kindOf(book.at(end)) == kind) {
                    end++;
                }
            } else if (kind != END) {
                end++;
            }
        }

        private static int kindOf(int sign) {
            if (sign == NONE) {
                return END;
            }
            if (sign >= 'a' && sign <= 'z') {
                return WORD;
            }
            if (sign >= '0' && sign <= '9') {
                return NUMBER;
            }
            return sign == ';' ? SEMICOLON : WRONG;
        }
    }

    /** Judges COMPANIES on the DAY it stands on. */
    private static final class Judge {
        private final Roll roll;
        private final int[] ages = new int[Roll.MOST_PEOPLE];
        private int unborn;

        Judge(Roll roll) {
            this.roll = roll;
        }

        void standOn(int day) {
            int year = Calendar.yearOf(day);
            unborn = 0;
            for (int p = 0; p < roll.people; p++) {
                ages[p] = roll.yearsOf(p, day, year);
                if (ages[p] < 0) {
                    unborn |= 1 << p;
                }
            }
        }

        int reason(int company, int gate) {
            if ((company & unborn) != 0) {
                return 1;
            }
            int lasting = lastingReason(company, gate);
            if (lasting != 0) {
                return lasting;
            }
            return isLawful(company, roll.law[gate]) ? 0 : 5;
        }

        /** A reason that no DAY takes away. */
        private int lastingReason(int company, int gate) {
            if (Integer.bitCount(company) > roll.seats[gate]) {
                return 2;
            }
            int wanted = 0;
            int unwanted = 0;
            for (int p = 0; p < roll.people; p++) {
                if ((company >> p & 1) != 0) {
                    wanted |= roll.with[p];
                    unwanted |= roll.apart[p];
                }
            }
            if ((wanted & ~company) != 0) {
                return 3;
            }
            return (unwanted & company) != 0 ? 4 : 0;
        }

        private boolean isLawful(int company, int law) {
            switch (law) {
                case 0: return yearsTogether(company) % 10 == 0;
                case 1: return yearsTogether(company) % 7 == 0;
                case 2: return isSquare(yearsTogether(company));
                case 3: return isUnlike(company);
                default: return yearsTogether(company) % 10 == 0 && isUnlike(company);
            }
        }

        private int yearsTogether(int company) {
            int years = 0;
            for (int p = 0; p < roll.people; p++) {
                if ((company >> p & 1) != 0) {
                    years += ages[p];
                }
            }
            return years;
        }

        private static boolean isSquare(int years) {
            // Eight people have 8 times 399 years at most, less than 57 times 57.
            for (int root = 0; root <= 57; root++) {
                if (root * root == years) {
                    return true;
                }
            }
            return false;
        }

        private boolean isUnlike(int company) {
            for (int p = 1; p < roll.people; p++) {
                for (int q = 0; q < p; q++) {
                    if ((company >> p & company >> q & 1) != 0 && ages[p] == ages[q]) {
                        return false;
                    }
                }
            }
            return true;
        }

        /** The first DAY behind one on which one of a set is born or a year older: until then nothing changes. */
        int changeBehind(int set, int day) {
            int year = Calendar.yearOf(day);
            int first = Calendar.LAST_DAY + 1;
            for (int p = 0; p < roll.people; p++) {
                if ((set >> p & 1) != 0) {
                    first = Math.min(first, roll.birthdayBehind(p, day, year));
                }
            }
            return first;
        }

        int firstDay(int company, int gate, int day) {
            if (lastingReason(company, gate) != 0) {
                return NONE;
            }
            int at = day;
            for (int step = 0; step <= Calendar.LAST_DAY && at <= Calendar.LAST_DAY; step++) {
                standOn(at);
                if (reason(company, gate) == 0) {
                    return at;
                }
                at = changeBehind(company, at);
            }
            return NONE;
        }

        int daysOfYear(int company, int gate, int year) {
            int end = Calendar.firstDayOf(year + 1);
            int at = Calendar.firstDayOf(year);
            int days = 0;
            for (int step = 0; step < 366 && at < end; step++) {
                int until = Math.min(changeBehind(company, at), end);
                standOn(at);
                if (reason(company, gate) == 0) {
                    days += until - at;
                }
                at = until;
            }
            return days;
        }
    }

    /** OVER and PARTS, by the best that each subset of a set can come to. */
    private static final class Parting {
        private static final int SETS = 1 << Roll.MOST_PEOPLE, LONGEST_WAIT = 1500;
        /** One who is left costs more than all COMPANIES together. */
        private static final int LEFT = 16, COMPANY = 1;

        private final Judge judge;
        private final boolean[] may = new boolean[SETS];
        private final int[] cost = new int[SETS];
        final int[] companies = new int[Roll.MOST_PEOPLE];
        int many, left;

        Parting(Judge judge) {
            this.judge = judge;
        }

        private void weigh(int set, int gate) {
            cost[0] = 0;
            for (int sub = 1; sub <= set && sub < SETS; sub++) {
                if ((sub & ~set) == 0) {
                    may[sub] = judge.reason(sub, gate) == 0;
                    cost[sub] = leastCost(sub);
                }
            }
        }

        private int leastCost(int set) {
            int least = set & -set;
            int others = set ^ least;
            int best = LEFT + cost[others];
            int some = 0;
            for (int step = 0; step < SETS; step++) {
                if (may[some | least]) {
                    best = Math.min(best, COMPANY + cost[others ^ some]);
                }
                if (some == others) {
                    break;
                }
                some = some - others & others;
            }
            return best;
        }

        void deal(int set, int gate) {
            weigh(set, gate);
            many = 0;
            left = 0;
            int rest = set;
            for (int step = 0; step < Roll.MOST_PEOPLE && rest != 0; step++) {
                int company = leastBestCompany(rest);
                if (company == 0) {
                    left |= rest & -rest;
                    rest &= rest - 1;
                } else {
                    companies[many] = company;
                    many++;
                    rest ^= company;
                }
            }
        }

        /** The COMPANY that the least of a set goes in, 0 if it is left. */
        private int leastBestCompany(int set) {
            int least = set & -set;
            for (int company = least; company <= set && company < SETS; company++) {
                boolean inside = (company & ~set) == 0 && (company & least) != 0;
                if (inside && may[company] && COMPANY + cost[set ^ company] == cost[set]) {
                    return company;
                }
            }
            return 0;
        }

        private boolean leavesNobody(int set, int gate) {
            weigh(set, gate);
            return cost[set] < LEFT;
        }

        int firstDayForBoth(int one, int other, int gate, int day) {
            int last = Math.min(day + LONGEST_WAIT, Calendar.LAST_DAY);
            int at = day;
            for (int step = 0; step <= LONGEST_WAIT && at <= last; step++) {
                judge.standOn(at);
                if (leavesNobody(one, gate) && leavesNobody(other, gate)) {
                    return at;
                }
                at = judge.changeBehind(one | other, at);
            }
            return NONE;
        }
    }

    /** CROWDS: how many sets of each size come to each rest over ten. */
    private static final class Sums {
        static final int RESTS = 10, MOST_ALIKE = 6, MOST = RESTS * MOST_ALIKE;

        private final int[] crowds;
        private final long[] sets = new long[(MOST + 1) * RESTS];

        Sums(int[] crowds) {
            this.crowds = crowds;
        }

        /** How many people there are in all CROWDS. */
        int countSets() {
            for (int i = 0; i < sets.length; i++) {
                sets[i] = 0;
            }
            sets[0] = 1;
            int people = 0;
            for (int r = 0; r < RESTS; r++) {
                for (int n = 0; n < crowds[r] && people < MOST; n++) {
                    people++;
                    addOne(r, people);
                }
            }
            return people;
        }

        /** Sizes go down, so that nobody is taken into a set twice. */
        private void addOne(int r, int people) {
            for (int k = people; k >= 1; k--) {
                for (int rest = 0; rest < RESTS; rest++) {
                    int before = (rest + RESTS - r) % RESTS;
                    sets[k * RESTS + rest] += sets[(k - 1) * RESTS + before];
                }
            }
        }

        long setsOfTens(int k) {
            return sets[k * RESTS];
        }
    }

    /** PASSINGS and LIARS. */
    private static final class Passings {
        static final int UNTOLD = 5, MOST = 10;

        int many, liars;
        /** How many FITS there are, NONE until it is counted: a count goes through thousands of ways. */
        int counted = NONE;
        final int[] sets = new int[MOST];
        final int[] known = new int[MOST];
        final boolean[] let = new boolean[MOST];

        int append(int set, int years, boolean wasLet) {
            if (many >= MOST) {
                return FULL;
            }
            sets[many] = set;
            known[many] = years;
            let[many] = wasLet;
            counted = NONE;
            return many++;
        }

        int drop() {
            int were = many;
            many = 0;
            counted = NONE;
            return were;
        }

        int allow(int n) {
            int was = liars;
            liars = n;
            counted = NONE;
            return was;
        }

        void copyFrom(Passings other) {
            many = other.many;
            liars = other.liars;
            counted = other.counted;
            System.arraycopy(other.sets, 0, sets, 0, MOST);
            System.arraycopy(other.known, 0, known, 0, MOST);
            System.arraycopy(other.let, 0, let, 0, MOST);
        }
    }

    /** FITS, one UNTOLD after the other: a PASSING is decided when the last of its set has its figure. */
    private static final class Fits {
        private static final int FIGURES = 10;

        private final Passings passings;
        private final int[] figures = new int[Passings.UNTOLD];
        /** How many PASSINGS are not decided ahead of each UNTOLD. */
        private final int[] undecided = new int[Passings.UNTOLD];
        /** How many PASSINGS become wrong by each figure of each UNTOLD, given those ahead. */
        private final int[] wrongs = new int[Passings.UNTOLD * FIGURES];
        private int fixedOne, fixedFigure;

        Fits(Passings passings) {
            this.passings = passings;
        }

        int countAll() {
            if (passings.counted == NONE) {
                begin(NONE, NONE);
                passings.counted = countFrom(0, 0);
            }
            return passings.counted;
        }

        int countWith(int one, int r) {
            begin(one, r);
            return countFrom(0, 0);
        }

        /** The i-th, of which there must be more than i. */
        int pick(int i) {
            begin(NONE, NONE);
            int skip = i;
            int wrong = 0;
            int number = 0;
            for (int one = 0; one < Passings.UNTOLD; one++) {
                weighFigures(one);
                int r = 0;
                int ways = countBehind(one, r, wrong);
                while (r < FIGURES - 1 && skip >= ways) {
                    skip -= ways;
                    r++;
                    ways = countBehind(one, r, wrong);
                }
                wrong += wrongs[one * FIGURES + r];
                number = 10 * number + r;
            }
            return number;
        }

        private void begin(int one, int r) {
            fixedOne = one;
            fixedFigure = r;
            for (int ahead = 0; ahead < Passings.UNTOLD; ahead++) {
                undecided[ahead] = 0;
                for (int j = 0; j < passings.many; j++) {
                    undecided[ahead] += passings.sets[j] >> ahead != 0 ? 1 : 0;
                }
            }
        }

        /** How many ways there are to go on, with so many UNTOLD done and so many PASSINGS wrong. */
        private int countFrom(int one, int wrong) {
            if (wrong > passings.liars) {
                return 0;
            }
            if (one >= Passings.UNTOLD || wrong + undecided[one] <= passings.liars) {
                return freeWays(one);
            }
            weighFigures(one);
            int ways = 0;
            for (int r = 0; r < FIGURES; r++) {
                if (one != fixedOne || r == fixedFigure) {
                    ways += countBehind(one, r, wrong);
                }
            }
            return ways;
        }

        private int countBehind(int one, int r, int wrong) {
            figures[one] = r;
            return countFrom(one + 1, wrong + wrongs[one * FIGURES + r]);
        }

        private int freeWays(int one) {
            int ways = 1;
            for (int later = one; later < Passings.UNTOLD; later++) {
                ways *= later == fixedOne ? 1 : FIGURES;
            }
            return ways;
        }

        /** A PASSING that was let is wrong by all figures but the one needed, another by that one alone. */
        private void weighFigures(int one) {
            int row = one * FIGURES;
            for (int r = 0; r < FIGURES; r++) {
                wrongs[row + r] = 0;
            }
            int lets = 0;
            for (int j = 0; j < passings.many; j++) {
                if (passings.sets[j] >> one == 1) {
                    wrongs[row + neededFigure(j, one)] += passings.let[j] ? -1 : 1;
                    lets += passings.let[j] ? 1 : 0;
                }
            }
            for (int r = 0; r < FIGURES; r++) {
                wrongs[row + r] += lets;
            }
        }

        private int neededFigure(int j, int one) {
            int years = passings.known[j];
            for (int earlier = 0; earlier < one; earlier++) {
                if ((passings.sets[j] >> earlier & 1) != 0) {
                    years += figures[earlier];
                }
            }
            return (FIGURES - years % FIGURES) % FIGURES;
        }
    }

    /** All that an IMAGE keeps. */
    private static final class State {
        final Roll roll = new Roll();
        final Book book = new Book();
        final int[] crowds = new int[Sums.RESTS];
        final Passings passings = new Passings();

        void copyFrom(State other) {
            roll.copyFrom(other.roll);
            book.copyFrom(other.book);
            System.arraycopy(other.crowds, 0, crowds, 0, Sums.RESTS);
            passings.copyFrom(other.passings);
        }

        long digestFrom(long seed) {
            long h = 31 * (31 * seed + roll.people) + roll.gates;
            h = 31 * (31 * h + book.length) + passings.many;
            for (int p = 0; p < roll.people; p++) {
                h = 31 * (31 * (31 * h + roll.born[p]) + roll.with[p]) + roll.apart[p];
            }
            for (int g = 0; g < roll.gates; g++) {
                h = 31 * (31 * h + roll.law[g]) + roll.seats[g];
            }
            for (int i = 0; i < book.length; i++) {
                h = 31 * h + book.at(i);
            }
            for (int r = 0; r < Sums.RESTS; r++) {
                h = 31 * h + crowds[r];
            }
            for (int j = 0; j < passings.many; j++) {
                h = 31 * (31 * h + passings.sets[j]) + passings.known[j];
                h = 31 * h + (passings.let[j] ? 1 : 0);
            }
            return 31 * h + passings.liars;
        }
    }
}
