import java.math.BigInteger;
import java.time.LocalDate;
import java.time.format.DateTimeFormatter;
import java.time.format.ResolverStyle;
import java.time.temporal.ChronoUnit;
import java.util.ArrayList;
import java.util.List;
import java.util.regex.Matcher;
import java.util.regex.Pattern;

/** The document in the most roundabout words: every day, every set, every way is looked at one by one. */
final class Model {
    static final LocalDate FIRST = LocalDate.of(1800, 1, 1);
    static final int DAYS = 146097;
    private static final int[] YEAR = new int[DAYS], MONTH_DAY = new int[DAYS];

    static {
        for (int d = 0; d < DAYS; d++) {
            LocalDate date = FIRST.plusDays(d);
            YEAR[d] = date.getYear();
            MONTH_DAY[d] = 100 * date.getMonthValue() + date.getDayOfMonth();
        }
    }

    private Told told = new Told();
    private final Told[] images = new Told[2];
    private int above = 0, below = 1;
    private final int[] status = new int[3];

    /** All that an image keeps. */
    private static final class Told {
        List<Integer> born = new ArrayList<>();
        List<int[]> gates = new ArrayList<>();
        List<String> ties = new ArrayList<>();
        StringBuilder book = new StringBuilder();
        int[] crowds = new int[10];
        List<int[]> passings = new ArrayList<>();
        int liars = 0;

        Told copy() {
            Told t = new Told();
            t.born.addAll(born);
            t.gates.addAll(gates);
            t.ties.addAll(ties);
            t.book.append(book);
            t.crowds = crowds.clone();
            t.passings.addAll(passings);
            t.liars = liars;
            return t;
        }

        int tied(String what, int p) {
            int bits = 0;
            for (int q = 0; q < born.size(); q++) {
                if (ties.contains(what + p + q) || ties.contains(what + q + p)) {
                    bits |= 1 << q;
                }
            }
            return bits;
        }
    }

    private int bad() {
        status[0]++;
        return -2;
    }

    private int badByTen() {
        status[0]++;
        return -10;
    }

    private int no() {
        status[1]++;
        return -3;
    }

    private int full() {
        status[2]++;
        return -4;
    }

    private static LocalDate dateOf(int year, int month, int day) {
        if (year < 1800 || year > 2199 || month < 0 || month > 99 || day < 0 || day > 99) {
            return null;
        }
        try {
            return LocalDate.parse(String.format("%04d-%02d-%02d", year, month, day),
                DateTimeFormatter.ofPattern("uuuu-MM-dd").withResolverStyle(ResolverStyle.STRICT));
        } catch (java.time.DateTimeException none) {
            return null;
        }
    }

    private static boolean isDay(int day) {
        return 0 <= day && day < DAYS;
    }

    int day(int year, int month, int day) {
        LocalDate date = dateOf(year, month, day);
        return date == null ? bad() : (int) ChronoUnit.DAYS.between(FIRST, date);
    }

    int date(int day, int what) {
        if (!isDay(day) || what < 0 || what > 2) {
            return bad();
        }
        LocalDate date = FIRST.plusDays(day);
        return new int[] {date.getYear(), date.getMonthValue(), date.getDayOfMonth()}[what];
    }

    int person(int day) {
        if (!isDay(day)) {
            return bad();
        }
        if (told.born.size() == 8) {
            return full();
        }
        told.born.add(day);
        return told.born.size() - 1;
    }

    int gate(int law, int seats) {
        if (law < 0 || law > 4 || seats < 1 || seats > 8) {
            return bad();
        }
        if (told.gates.size() == 4) {
            return full();
        }
        told.gates.add(new int[] {law, seats});
        return told.gates.size() - 1;
    }

    private boolean isPerson(int p) {
        return 0 <= p && p < told.born.size();
    }

    private boolean isGate(int g) {
        return 0 <= g && g < told.gates.size();
    }

    private boolean isSet(int set) {
        for (int bit = 0; bit < 32; bit++) {
            if ((set >>> bit & 1) == 1 && !isPerson(bit)) {
                return false;
            }
        }
        return true;
    }

    int pair(int a, int b, int what) {
        if (!isPerson(a) || !isPerson(b) || a == b || (what != 0 && what != 1)) {
            return bad();
        }
        String kind = what == 0 ? "with" : "apart";
        if ((told.tied(kind, a) >> b & 1) == 1) {
            return no();
        }
        told.ties.add(kind + a + b);
        return 1;
    }

    private int years(int p, int day) {
        int born = told.born.get(p);
        if (day < born) {
            return -1;
        }
        return YEAR[day] - YEAR[born] - (MONTH_DAY[day] < MONTH_DAY[born] ? 1 : 0);
    }

    int age(int p, int day) {
        return isPerson(p) && isDay(day) ? years(p, day) : bad();
    }

    private List<Integer> members(int set) {
        List<Integer> members = new ArrayList<>();
        for (int p = 0; p < told.born.size(); p++) {
            if ((set >> p & 1) == 1) {
                members.add(p);
            }
        }
        return members;
    }

    private int reason(int company, int gate, int day) {
        List<Integer> members = members(company);
        int sum = 0;
        for (int p : members) {
            if (years(p, day) < 0) {
                return 1;
            }
            sum += years(p, day);
        }
        if (members.size() > told.gates.get(gate)[1]) {
            return 2;
        }
        for (int p : members) {
            if ((told.tied("with", p) | company) != company) {
                return 3;
            }
        }
        for (int p : members) {
            if ((told.tied("apart", p) & company) != 0) {
                return 4;
            }
        }
        boolean unlike = members.stream().map(p -> years(p, day)).distinct().count() == members.size();
        int law = told.gates.get(gate)[0];
        boolean lawful = law == 0 ? sum % 10 == 0 : law == 1 ? sum % 7 == 0
            : law == 2 ? Math.sqrt(sum) == Math.floor(Math.sqrt(sum)) : law == 3 ? unlike : unlike && sum % 10 == 0;
        return lawful ? 0 : 5;
    }

    int why(int company, int gate, int day) {
        if (company == 0 || !isSet(company) || !isGate(gate) || !isDay(day)) {
            return badByTen();
        }
        return reason(company, gate, day);
    }

    int type(long v, int n) {
        if (n < 1 || n > 8) {
            return bad();
        }
        if (told.book.length() + n > 200) {
            return full();
        }
        String hex = String.format("%016x", v);
        for (int i = 8 - n; i < 8; i++) {
            told.book.append((char) Integer.parseInt(hex.substring(2 * i, 2 * i + 2), 16));
        }
        return told.book.length();
    }

    int clear() {
        int had = told.book.length();
        told.book.setLength(0);
        return had;
    }

    private static final Pattern TOKEN = Pattern.compile("[a-z]+|[0-9]+|;|[^ ]", Pattern.DOTALL);

    int read() {
        Matcher matcher = TOKEN.matcher(told.book);
        List<String> tokens = new ArrayList<>();
        List<Integer> starts = new ArrayList<>();
        while (matcher.find()) {
            tokens.add(matcher.group());
            starts.add(matcher.start());
        }
        starts.add(told.book.length());
        Told fresh = told.copy();
        fresh.born.clear();
        fresh.gates.clear();
        fresh.ties.clear();
        int items = 0;
        List<String> item = new ArrayList<>();
        for (int t = 0; t < tokens.size(); t++) {
            item.add(tokens.get(t));
            if (!canStand(fresh, item)) {
                return -10 - starts.get(t);
            }
            if (tokens.get(t).equals(";")) {
                put(fresh, item);
                item.clear();
                items++;
            }
        }
        if (!item.isEmpty()) {
            return -10 - told.book.length();
        }
        told = fresh;
        return items;
    }

    /** Whether the last of an item's tokens can stand behind the others. */
    private static boolean canStand(Told fresh, List<String> item) {
        String word = item.get(0);
        int at = item.size() - 1;
        String last = item.get(at);
        if (at == 0) {
            return word.equals("person") ? fresh.born.size() < 8 : word.equals("gate") ? fresh.gates.size() < 4
                : word.equals("with") || word.equals("apart");
        }
        if (at == (word.equals("person") ? 4 : 3)) {
            return last.equals(";");
        }
        if (!last.matches("[0-9]{1,4}")) {
            return false;
        }
        int n = Integer.parseInt(last);
        if (word.equals("person")) {
            return at == 1 ? n >= 1800 && n <= 2199 : at == 2 ? n >= 1 && n <= 12
                : dateOf(Integer.parseInt(item.get(1)), Integer.parseInt(item.get(2)), n) != null;
        }
        if (word.equals("gate")) {
            return at == 1 ? n <= 4 : n >= 1 && n <= 8;
        }
        return n < fresh.born.size() && (at == 1 || n != Integer.parseInt(item.get(1)));
    }

    private static void put(Told fresh, List<String> item) {
        int a = Integer.parseInt(item.get(1));
        int b = Integer.parseInt(item.get(2));
        if (item.get(0).equals("person")) {
            LocalDate date = dateOf(a, b, Integer.parseInt(item.get(3)));
            fresh.born.add((int) ChronoUnit.DAYS.between(FIRST, date));
        } else if (item.get(0).equals("gate")) {
            fresh.gates.add(new int[] {a, b});
        } else {
            fresh.ties.add(item.get(0) + a + b);
        }
    }

    private List<Integer> companies(int gate, int day) {
        List<Integer> list = new ArrayList<>();
        for (int company = 1; company < 256; company++) {
            if (isSet(company) && reason(company, gate, day) == 0) {
                list.add(company);
            }
        }
        return list;
    }

    int can(int gate, int day, int k, int i) {
        if (!isGate(gate) || !isDay(day) || k < 0 || k > 8 || i < -1) {
            return badByTen();
        }
        List<Integer> list = companies(gate, day);
        list.removeIf(c -> k != 0 && Integer.bitCount(c) != k);
        return i == -1 ? list.size() : i < list.size() ? list.get(i) : -5;
    }

    /** The best of {left, companies} from all choices of companies without one in common. */
    private int[] best(int set, List<Integer> list) {
        if (set == 0) {
            return new int[] {0, 0};
        }
        int least = Integer.lowestOneBit(set);
        int[] best = best(set & ~least, list);
        best[0]++;
        for (int company : list) {
            if ((company & least) != 0 && (company & set) == company) {
                int[] other = best(set & ~company, list);
                other[1]++;
                if (other[0] < best[0] || other[0] == best[0] && other[1] < best[1]) {
                    best = other;
                }
            }
        }
        return best;
    }

    /** The companies of PARTS, and behind them who is left. */
    private List<Integer> partsOf(int set, int gate, int day) {
        List<Integer> list = companies(gate, day);
        List<Integer> parts = new ArrayList<>();
        int[] aim = best(set, list);
        int left = 0;
        int rest = set;
        while (rest != 0) {
            int least = Integer.lowestOneBit(rest);
            int taken = 0;
            for (int company : list) {
                int[] then = best(rest & ~company, list);
                if (taken == 0 && (company & least) != 0 && (company & rest) == company
                    && then[0] + Integer.bitCount(left) == aim[0] && then[1] + parts.size() + 1 == aim[1]) {
                    taken = company;
                }
            }
            if (taken == 0) {
                left |= least;
                rest &= ~least;
            } else {
                parts.add(taken);
                rest &= ~taken;
            }
        }
        parts.add(left);
        return parts;
    }

    int over(int set, int gate, int day, int what) {
        if (!isSet(set) || !isGate(gate) || !isDay(day) || what < 0 || what > 2) {
            return bad();
        }
        if (what == 2) {
            List<Integer> parts = partsOf(set, gate, day);
            return parts.get(parts.size() - 1);
        }
        return best(set, companies(gate, day))[what];
    }

    int parts(int set, int gate, int day, int i) {
        if (!isSet(set) || !isGate(gate) || !isDay(day) || i < 0) {
            return badByTen();
        }
        List<Integer> parts = partsOf(set, gate, day);
        return i < parts.size() - 1 ? parts.get(i) : -5;
    }

    int lent(int set, int gate, int day) {
        if (!isSet(set) || !isGate(gate) || !isDay(day)) {
            return bad();
        }
        for (int many = 0; many <= 8; many++) {
            for (int others = 0; others < 256; others++) {
                if (Integer.bitCount(others) == many && (others & set) == 0 && isSet(others) && (others | set) != 0
                    && reason(others | set, gate, day) == 0) {
                    return others;
                }
            }
        }
        return -1;
    }

    int worth(int p, int gate, int day) {
        if (!isPerson(p) || !isGate(gate) || !isDay(day)) {
            return bad();
        }
        return (int) companies(gate, day).stream().filter(c -> (c >> p & 1) == 1).count();
    }

    int dates(int company, int gate, int year) {
        if (company == 0 || !isSet(company) || !isGate(gate) || year < 1800 || year > 2199) {
            return bad();
        }
        int days = 0;
        for (int d = 0; d < DAYS; d++) {
            if (YEAR[d] == year && reason(company, gate, d) == 0) {
                days++;
            }
        }
        return days;
    }

    int next(int company, int gate, int day) {
        if (company == 0 || !isSet(company) || !isGate(gate) || !isDay(day)) {
            return bad();
        }
        for (int d = day; d < DAYS; d++) {
            if (reason(company, gate, d) == 0) {
                return d;
            }
        }
        return -1;
    }

    int wedding(int one, int other, int gate, int day) {
        if (!isSet(one) || !isSet(other) || (one & other) != 0 || !isGate(gate) || !isDay(day)) {
            return bad();
        }
        for (int d = day; d <= day + 1500 && d < DAYS; d++) {
            List<Integer> list = companies(gate, d);
            if (best(one, list)[0] == 0 && best(other, list)[0] == 0) {
                return d;
            }
        }
        return -1;
    }

    int crowd(int r, int n) {
        if (r < 0 || r > 9 || n < 0 || n > 6) {
            return bad();
        }
        int was = told.crowds[r];
        told.crowds[r] = n;
        return was;
    }

    /** Sets of each size and rest, a whole crowd at a time. */
    private BigInteger[][] sets() {
        BigInteger[][] sets = new BigInteger[61][10];
        for (BigInteger[] row : sets) {
            java.util.Arrays.fill(row, BigInteger.ZERO);
        }
        sets[0][0] = BigInteger.ONE;
        long[][] choose = {{1}, {1, 1}, {1, 2, 1}, {1, 3, 3, 1}, {1, 4, 6, 4, 1}, {1, 5, 10, 10, 5, 1},
            {1, 6, 15, 20, 15, 6, 1}};
        for (int r = 0; r < 10; r++) {
            BigInteger[][] more = new BigInteger[61][10];
            for (int k = 0; k <= 60; k++) {
                for (int s = 0; s < 10; s++) {
                    more[k][s] = BigInteger.ZERO;
                    for (int j = 0; j <= Math.min(k, told.crowds[r]); j++) {
                        BigInteger ways = BigInteger.valueOf(choose[told.crowds[r]][j]);
                        more[k][s] = more[k][s].add(ways.multiply(sets[k - j][Math.floorMod(s - j * r, 10)]));
                    }
                }
            }
            sets = more;
        }
        return sets;
    }

    long tens(int k) {
        return k < 0 || k > 60 ? bad() : sets()[k][0].longValueExact();
    }

    int spare() {
        int all = 0;
        for (int n : told.crowds) {
            all += n;
        }
        BigInteger[][] sets = sets();
        int fewest = all;
        for (int k = 1; k <= all; k++) {
            if (sets[k][0].signum() > 0) {
                fewest = Math.min(fewest, all - k);
            }
        }
        return fewest;
    }

    int passing(int set, int known, boolean let) {
        if (set < 1 || set > 31 || known < 0 || known > 99) {
            return bad();
        }
        if (told.passings.size() == 10) {
            return full();
        }
        told.passings.add(new int[] {set, known, let ? 1 : 0});
        return told.passings.size() - 1;
    }

    int forget() {
        int were = told.passings.size();
        told.passings.clear();
        return were;
    }

    int liars(int n) {
        if (n < 0 || n > 3) {
            return bad();
        }
        int was = told.liars;
        told.liars = n;
        return was;
    }

    private List<Integer> ways() {
        List<Integer> ways = new ArrayList<>();
        for (int way = 0; way < 100000; way++) {
            int[] figures = {way / 10000, way / 1000 % 10, way / 100 % 10, way / 10 % 10, way % 10};
            int wrong = 0;
            for (int[] p : told.passings) {
                int years = p[1];
                for (int one = 0; one < 5; one++) {
                    years += (p[0] >> one & 1) * figures[one];
                }
                wrong += (years % 10 == 0 ? 1 : 0) == p[2] ? 0 : 1;
            }
            if (wrong <= told.liars) {
                ways.add(way);
            }
        }
        return ways;
    }

    int fits(int i) {
        if (i < -1) {
            return badByTen();
        }
        List<Integer> ways = ways();
        return i == -1 ? ways.size() : i < ways.size() ? ways.get(i) : -5;
    }

    int untold(int one, int r) {
        if (one < 0 || one > 4 || r < 0 || r > 9) {
            return bad();
        }
        List<Integer> ways = ways();
        if (ways.isEmpty()) {
            return no();
        }
        int power = new int[] {10000, 1000, 100, 10, 1}[one];
        int some = (int) ways.stream().filter(w -> w / power % 10 == r).count();
        int common = BigInteger.valueOf(some).gcd(BigInteger.valueOf(ways.size())).intValue();
        above = some / common;
        below = ways.size() / common;
        return 1;
    }

    int part(int what) {
        return what == 0 ? above : what == 1 ? below : bad();
    }

    int image(int i) {
        if (i != 0 && i != 1) {
            return bad();
        }
        images[i] = told.copy();
        return 1;
    }

    int from(int i) {
        if (i != 0 && i != 1) {
            return bad();
        }
        if (images[i] == null) {
            return no();
        }
        told = images[i].copy();
        return 1;
    }

    int status(int what) {
        if (what < 0 || what > 2) {
            bad();
            return -1;
        }
        return status[what];
    }

    int count(int what) {
        int[] counts = {told.born.size(), told.gates.size(), told.book.length(), told.passings.size()};
        return what < 0 || what > 3 ? bad() : counts[what];
    }

    long digest() {
        List<Integer> all = new ArrayList<>();
        for (int what = 0; what < 4; what++) {
            all.add(count(what));
        }
        for (int p = 0; p < told.born.size(); p++) {
            all.add(told.born.get(p));
            all.add(told.tied("with", p));
            all.add(told.tied("apart", p));
        }
        for (int[] g : told.gates) {
            all.add(g[0]);
            all.add(g[1]);
        }
        told.book.chars().forEach(all::add);
        for (int n : told.crowds) {
            all.add(n);
        }
        for (int[] p : told.passings) {
            for (int v : p) {
                all.add(v);
            }
        }
        all.add(told.liars);
        all.add(above);
        all.add(below);
        long h = 641;
        for (int v : all) {
            h = 31 * h + v;
        }
        return h;
    }
}
