import java.time.LocalDate;
import java.time.temporal.ChronoUnit;
import java.util.Random;

/** Runs of calls by chance (the same ones each time), each answer compared with the Model's. */
public final class ModelTest {
    private static final int RUNS = 200, CALLS = 150;
    private static final int[] EDGES = {-1, -2, 0, 1, 2, 3, 4, 5, 7, 8, 9, 10, 31, 32, 60, 61, 99, 100, 255, 256,
        1799, 1800, 2199, 2200, 146096, 146097, Integer.MIN_VALUE, Integer.MAX_VALUE};

    private final Random random;
    private final AgesTens x = new AgesTens();
    private final Model model = new Model();

    private ModelTest(int seed) {
        random = new Random(seed);
    }

    public static void main(String[] args) {
        int runs = args.length > 0 ? Integer.parseInt(args[0]) : RUNS;
        for (int seed = 0; seed < runs; seed++) {
            new ModelTest(seed).play("run " + seed);
        }
        Check.end();
    }

    private void play(String run) {
        for (int call = 0; call < CALLS; call++) {
            String told = run + ", call " + call + " ";
            int which = random.nextInt(100);
            if (which < 22) {
                build(told);
            } else if (which < 30) {
                book(told);
            } else if (which < 58) {
                companies(told);
            } else if (which < 64) {
                crowds(told);
            } else if (which < 84) {
                untold(told);
            } else {
                state(told);
            }
            if (random.nextInt(8) == 0) {
                Check.due(told + "digest", x.digest(), model.digest());
            }
        }
        Check.due(run + " digest", x.digest(), model.digest());
        for (int what = 0; what < 3; what++) {
            Check.due(run + " status " + what, x.status(what), model.status(what));
        }
    }

    private boolean seldom() {
        return random.nextInt(40) == 0;
    }

    /** A number as told, or, seldom, one of the edges. */
    private int of(int least, int most) {
        return seldom() ? EDGES[random.nextInt(EDGES.length)] : least + random.nextInt(Math.max(1, most - least + 1));
    }

    private int aDay() {
        return seldom() ? EDGES[random.nextInt(EDGES.length)]
            : random.nextInt(6) == 0 ? random.nextInt(Model.DAYS) : 60000 + random.nextInt(15000);
    }

    private int lastOfFebruary() {
        LocalDate date = LocalDate.of(1800 + 4 * random.nextInt(100), 3, 1).minusDays(1);
        return (int) ChronoUnit.DAYS.between(Model.FIRST, date);
    }

    private int aPerson() {
        return of(0, x.count(0) - 1);
    }

    private int aGate() {
        return of(0, x.count(1) - 1);
    }

    private int aSet() {
        return of(0, (1 << x.count(0)) - 1);
    }

    private void build(String run) {
        switch (random.nextInt(8)) {
            case 0, 1, 2 -> {
                int day = random.nextInt(4) == 0 ? lastOfFebruary() : aDay();
                Check.due(run + "person " + day, x.person(day), model.person(day));
            }
            case 3, 4 -> {
                int law = of(0, 4);
                int seats = random.nextInt(3) == 0 ? of(1, 8) : of(2, 5);
                Check.due(run + "gate " + law + " " + seats, x.gate(law, seats), model.gate(law, seats));
            }
            case 5 -> {
                int a = aPerson();
                int b = aPerson();
                int what = of(0, 1);
                Check.due(run + "pair " + a + " " + b + " " + what, x.pair(a, b, what), model.pair(a, b, what));
            }
            case 6 -> {
                int year = of(1790, 2210);
                int month = of(0, 13);
                int day = of(0, 32);
                Check.due(run + "day " + year + " " + month + " " + day, x.day(year, month, day),
                    model.day(year, month, day));
            }
            default -> {
                int day = aDay();
                int what = of(0, 2);
                Check.due(run + "date " + day + " " + what, x.date(day, what), model.date(day, what));
            }
        }
    }

    private void book(String run) {
        int which = random.nextInt(4);
        if (which == 0) {
            Check.due(run + "read", x.read(), model.read());
        } else if (which == 1) {
            long v = random.nextLong();
            int n = of(1, 8);
            Check.due(run + "type " + v + " " + n, x.type(v, n), model.type(v, n));
        } else {
            Check.due(run + "clear", x.clear(), model.clear());
            String text = text();
            write(run, text);
            Check.due(run + "read \"" + text + "\"", x.read(), model.read());
        }
    }

    private void write(String run, String text) {
        int at = 0;
        while (at < text.length()) {
            int n = Math.min(1 + random.nextInt(8), text.length() - at);
            long v = random.nextLong();
            for (int i = 0; i < n; i++) {
                v = v << 8 | text.charAt(at + i);
            }
            Check.due(run + "type " + v + " " + n, x.type(v, n), model.type(v, n));
            at += n;
        }
    }

    private String text() {
        StringBuilder text = new StringBuilder();
        int people = random.nextInt(9);
        for (int p = 0; p < people; p++) {
            text.append("person").append(blank(false)).append(1900 + random.nextInt(80)).append(blank(true))
                .append(1 + random.nextInt(12)).append(blank(true)).append(1 + random.nextInt(29)).append(blank(false))
                .append(';').append(blank(false));
            if (p > 0 && random.nextInt(4) == 0) {
                text.append(random.nextBoolean() ? "with" : "apart").append(blank(false))
                    .append(random.nextInt(p + 1)).append(blank(true)).append(random.nextInt(p + 1)).append(';');
            }
        }
        for (int g = random.nextInt(4); g >= 0; g--) {
            text.append("gate").append(blank(false)).append(random.nextInt(5)).append(blank(true))
                .append(1 + random.nextInt(8)).append(blank(false)).append(';');
        }
        if (random.nextInt(3) == 0) {
            String signs = "0123456789;; agw" + (char) 9 + (char) 200;
            int at = random.nextInt(text.length());
            char sign = signs.charAt(random.nextInt(signs.length()));
            switch (random.nextInt(3)) {
                case 0 -> text.setCharAt(at, sign);
                case 1 -> text.insert(at, sign);
                default -> text.deleteCharAt(at);
            }
        }
        return text.toString();
    }

    private String blank(boolean needed) {
        return " ".repeat(random.nextInt(12) == 0 ? 2 : needed || random.nextInt(3) == 0 ? 1 : 0);
    }

    private void companies(String run) {
        int gate = aGate();
        int day = aDay();
        int set = aSet();
        String told = run + "gate " + gate + " day " + day + " set " + set + " ";
        switch (random.nextInt(10)) {
            case 0 -> {
                int p = aPerson();
                Check.due(told + "age " + p, x.age(p, day), model.age(p, day));
            }
            case 1 -> Check.due(told + "why", x.why(set, gate, day), model.why(set, gate, day));
            case 2, 3 -> {
                int k = random.nextBoolean() ? 0 : of(1, 8);
                int i = of(-1, 12);
                Check.due(told + "can " + k + " " + i, x.can(gate, day, k, i), model.can(gate, day, k, i));
            }
            case 4 -> {
                int what = of(0, 2);
                Check.due(told + "over " + what, x.over(set, gate, day, what), model.over(set, gate, day, what));
            }
            case 5 -> {
                int i = of(0, 4);
                Check.due(told + "parts " + i, x.parts(set, gate, day, i), model.parts(set, gate, day, i));
            }
            case 6 -> {
                int some = set & random.nextInt();
                Check.due(told + "lent " + some, x.lent(some, gate, day), model.lent(some, gate, day));
            }
            case 7 -> {
                int p = aPerson();
                Check.due(told + "worth " + p, x.worth(p, gate, day), model.worth(p, gate, day));
            }
            default -> dates(told, set, gate, day);
        }
    }

    private void dates(String told, int set, int gate, int day) {
        int which = random.nextInt(6);
        if (which < 3) {
            int year = random.nextInt(4) == 0 ? of(1800, 2199) : of(1960, 2010);
            Check.due(told + "dates " + year, x.dates(set, gate, year), model.dates(set, gate, year));
        } else if (which < 5) {
            int few = random.nextBoolean() ? set : set & random.nextInt();
            Check.due(told + "next " + few, x.next(few, gate, day), model.next(few, gate, day));
        } else {
            int other = seldom() ? aSet() : aSet() & ~set;
            int late = random.nextInt(10) == 0 ? Model.DAYS - 700 : day;
            Check.due(told + "wedding " + other + " " + late, x.wedding(set, other, gate, late),
                model.wedding(set, other, gate, late));
        }
    }

    private void crowds(String run) {
        int r = of(0, 9);
        int n = random.nextInt(3) == 0 ? 0 : of(0, 6);
        Check.due(run + "crowd " + r + " " + n, x.crowd(r, n), model.crowd(r, n));
        int k = of(0, random.nextBoolean() ? 60 : 8);
        Check.due(run + "tens " + k, x.tens(k), model.tens(k));
        Check.due(run + "spare", x.spare(), model.spare());
    }

    private void untold(String run) {
        int which = random.nextInt(20);
        if (which < 9) {
            int set = of(1, 31);
            int known = of(0, 99);
            boolean let = random.nextInt(3) != 0;
            Check.due(run + "passing " + set + " " + known + " " + let, x.passing(set, known, let),
                model.passing(set, known, let));
        } else if (which == 9) {
            Check.due(run + "forget", x.forget(), model.forget());
        } else if (which < 12) {
            int n = of(0, 3);
            Check.due(run + "liars " + n, x.liars(n), model.liars(n));
        } else if (which < 16) {
            int i = random.nextInt(3) == 0 ? -1 : of(-1, random.nextBoolean() ? 100 : 20000);
            Check.due(run + "fits " + i, x.fits(i), model.fits(i));
        } else {
            int one = of(0, 4);
            int r = of(0, 9);
            Check.due(run + "untold " + one + " " + r, x.untold(one, r), model.untold(one, r));
            Check.due(run + "part 0", x.part(0), model.part(0));
            Check.due(run + "part 1", x.part(1), model.part(1));
        }
    }

    private void state(String run) {
        int i = of(0, 1);
        switch (random.nextInt(6)) {
            case 0 -> Check.due(run + "image " + i, x.image(i), model.image(i));
            case 1 -> Check.due(run + "from " + i, x.from(i), model.from(i));
            case 2 -> Check.due(run + "part " + i, x.part(i), model.part(i));
            case 3, 4 -> {
                int what = of(0, 2);
                Check.due(run + "status " + what, x.status(what), model.status(what));
            }
            default -> {
                int what = of(0, 3);
                Check.due(run + "count " + what, x.count(what), model.count(what));
            }
        }
    }
}
