import java.io.IOException;
import java.lang.management.ManagementFactory;
import java.lang.reflect.Constructor;
import java.lang.reflect.Field;
import java.lang.reflect.Method;
import java.lang.reflect.Modifier;
import java.nio.file.Files;
import java.nio.file.Path;
import java.util.Arrays;
import java.util.Set;
import java.util.TreeSet;
import java.util.regex.Matcher;
import java.util.regex.Pattern;

/** The public face, the rules of LANGUAGE.md that can be looked up, and what calls make. */
public final class FaceTest {
    private static final String[] FACE = {"int day(int,int,int)", "int date(int,int)", "int person(int)",
        "int gate(int,int)", "int pair(int,int,int)", "int age(int,int)", "int why(int,int,int)",
        "int type(long,int)", "int clear()", "int read()", "int can(int,int,int,int)", "int over(int,int,int,int)",
        "int parts(int,int,int,int)", "int lent(int,int,int)", "int worth(int,int,int)", "int dates(int,int,int)",
        "int next(int,int,int)", "int wedding(int,int,int,int)", "int crowd(int,int)", "long tens(int)",
        "int spare()", "int passing(int,int,boolean)", "int forget()", "int liars(int)", "int fits(int)",
        "int untold(int,int)", "int part(int)", "int image(int)", "int from(int)", "int status(int)",
        "int count(int)", "long digest()"};

    public static void main(String[] args) throws IOException {
        constants();
        face();
        classesInside();
        source();
        whatCallsMake();
        Check.end();
    }

    private static void constants() {
        Check.due("NONE", AgesTens.NONE, -1);
        Check.due("BAD", AgesTens.BAD, -2);
        Check.due("NO", AgesTens.NO, -3);
        Check.due("FULL", AgesTens.FULL, -4);
    }

    private static void face() {
        Check.isTrue("public and final", Modifier.isPublic(AgesTens.class.getModifiers())
            && Modifier.isFinal(AgesTens.class.getModifiers()));
        Set<String> due = new TreeSet<>(Arrays.asList(FACE));
        Set<String> names = names();
        for (Method method : AgesTens.class.getDeclaredMethods()) {
            if (Modifier.isPrivate(method.getModifiers())) {
                Check.isTrue("a private " + method.getName(), !names.contains(method.getName()));
            } else {
                String types = Arrays.toString(method.getParameterTypes()).replaceAll("[\\[\\] ]", "");
                String told = method.getReturnType() + " " + method.getName() + "(" + types + ")";
                boolean open = Modifier.isPublic(method.getModifiers()) && !Modifier.isStatic(method.getModifiers());
                Check.isTrue("told in the document: " + told, due.remove(told) && open);
            }
        }
        Check.isTrue("all are there, but for " + due, due.isEmpty());
        Constructor<?>[] constructors = AgesTens.class.getDeclaredConstructors();
        Check.due("constructors", constructors.length, 1);
        Check.isTrue("a public one", Modifier.isPublic(constructors[0].getModifiers())
            && constructors[0].getParameterCount() == 0);
        Set<String> open = new TreeSet<>();
        for (Field field : AgesTens.class.getDeclaredFields()) {
            if (!Modifier.isPrivate(field.getModifiers())) {
                open.add(field.getName());
            }
        }
        Check.isTrue("public fields: " + open, open.equals(Set.of("NONE", "BAD", "NO", "FULL")));
    }

    private static Set<String> names() {
        Set<String> names = new TreeSet<>();
        for (String told : FACE) {
            names.add(told.substring(told.indexOf(' ') + 1, told.indexOf('(')));
        }
        return names;
    }

    private static void classesInside() {
        Class<?>[] inside = AgesTens.class.getDeclaredClasses();
        Check.isTrue("some twelve classes at most", inside.length + 1 <= 12);
        for (Class<?> one : inside) {
            Check.isTrue(one + " is static", Modifier.isStatic(one.getModifiers()));
            Check.isTrue(one + " is not public", !Modifier.isPublic(one.getModifiers()));
            int fields = 0;
            for (Field field : one.getDeclaredFields()) {
                boolean isStatic = Modifier.isStatic(field.getModifiers());
                Check.isTrue(field + " is final", !isStatic || Modifier.isFinal(field.getModifiers()));
                fields += isStatic ? 0 : 1;
            }
            Check.isTrue(one + " has some twenty fields at most", fields <= 20);
            for (Method method : one.getDeclaredMethods()) {
                Check.isTrue(method + " takes seven at most", method.getParameterCount() <= 7);
                Check.isTrue(method + " has a name of its own", !names().contains(method.getName()));
            }
        }
    }

    private static void source() throws IOException {
        String text = Files.readString(Path.of("src/main/java/AgesTens.java"));
        String code = text.replaceAll("(?s)/\\*.*?\\*/", "").replaceAll("//[^\n]*", "");
        String[] ruledOut = {"\\b(throw|throws|try|catch|finally|synchronized|assert|package|import|native)\\b",
            "->", "::", "\\bprotected\\b", "\\bvolatile\\b", "\\btransient\\b", "@", "Exact\\b", "\\bString\\.",
            "\\b(System)\\.(?!arraycopy\\b)", "\\bMath\\.(?!min\\b|max\\b)", "\\bInteger\\.(?!bitCount\\b)",
            "\\bThread\\b", "\\bRandom\\b", "\\bdouble\\b|\\bfloat\\b", "[^\\x00-\\x7f]", "static \\{"};
        for (String rule : ruledOut) {
            Matcher matcher = Pattern.compile(rule).matcher(code);
            Check.isTrue("none of " + rule, !matcher.find());
        }
        Matcher method = Pattern.compile("(?m)^( {4}| {8})(?! |return|if|for|while|switch|\\})[^=;\n]*\\([^;\n]*\\) \\{\n")
            .matcher(code);
        int methods = 0;
        while (method.find()) {
            int end = code.indexOf("\n" + method.group(1) + "}", method.start());
            long lines = code.substring(method.start(), end).lines().count();
            Check.isTrue(method.group().trim() + " is short: " + lines, lines <= 60);
            methods++;
        }
        Check.isTrue("methods were found: " + methods, methods > 100);
    }

    /** All calls of a run live in one room: none but the constructor makes anything. */
    private static void whatCallsMake() {
        com.sun.management.ThreadMXBean bean =
            (com.sun.management.ThreadMXBean) ManagementFactory.getThreadMXBean();
        long id = Thread.currentThread().getId();
        AgesTens warm = new AgesTens();
        everyCall(warm);
        bean.getThreadAllocatedBytes(id);
        long start = bean.getThreadAllocatedBytes(id);
        AgesTens x = new AgesTens();
        long made = bean.getThreadAllocatedBytes(id);
        for (int round = 0; round < 12; round++) {
            everyCall(x);
        }
        long behind = bean.getThreadAllocatedBytes(id);
        Check.isTrue("a new object is small: " + (made - start), made - start < 24000);
        Check.isTrue("calls make nothing: " + (behind - made), behind - made < 2000);
    }

    private static long everyCall(AgesTens x) {
        long sum = x.day(2000, 2, 29) + x.date(73000, 1) + x.clear() + x.type(0x676174652030L, 6) + x.type(0x20383bL, 3);
        sum += x.read() + x.person(40000) + x.person(50000) + x.person(60000) + x.gate(0, 8) + x.pair(0, 1, 0);
        sum += x.age(0, 73000) + x.why(3, 0, 73000) + x.can(0, 73000, 0, 0) + x.over(7, 0, 73000, 0);
        sum += x.parts(7, 0, 73000, 0) + x.lent(1, 0, 73000) + x.worth(0, 0, 73000) + x.dates(3, 0, 2000);
        sum += x.next(7, 0, 73000) + x.wedding(3, 4, 0, 73000) + x.crowd(3, 4) + x.tens(3) + x.spare();
        sum += x.passing(21, 3, true) + x.liars(1) + x.fits(-1) + x.fits(77) + x.untold(3, 3) + x.part(0) + x.forget();
        return sum + x.image(0) + x.from(0) + x.status(0) + x.count(0) + x.digest() + x.from(7) + x.type(0, 9);
    }
}
