import java.io.IOException;
import java.lang.reflect.InvocationTargetException;
import java.lang.reflect.Method;
import java.lang.reflect.Modifier;
import java.nio.file.Files;
import java.nio.file.Path;
import java.util.Set;
import java.util.TreeSet;
import java.util.regex.Matcher;
import java.util.regex.Pattern;

/** README.md: each call that it shows has the answer that it shows, and each method and special answer is told. */
public final class ReadmeTest {
    private static final Pattern BLOCK = Pattern.compile("(?ms)^```java\n(.*?)^```$");
    private static final Pattern CALL = Pattern.compile("x\\.(\\w+)\\(([^()]*)\\); +// (-?\\d+)(  .*)?");
    private static final String MADE = "AgesTens x = new AgesTens();";

    private static final Set<String> METHODS_SHOWN = new TreeSet<>();
    private static final Set<Long> ANSWERS_SHOWN = new TreeSet<>();

    public static void main(String[] args) throws IOException {
        String text = Files.readString(Path.of("README.md"));
        examples(text);
        methods(text);
        specialAnswers(text);
        howToTest(text);
        Check.end();
    }

    private static void examples(String text) {
        Matcher block = BLOCK.matcher(text);
        int blocks = 0;
        while (block.find()) {
            play(block.group(1));
            blocks++;
        }
        Check.isTrue("README.md has examples", blocks > 0);
    }

    private static void play(String block) {
        AgesTens x = null;
        for (String line : block.split("\n")) {
            Matcher call = CALL.matcher(line);
            if (line.equals(MADE)) {
                x = new AgesTens();
            } else if (x != null && call.matches()) {
                METHODS_SHOWN.add(call.group(1));
                ANSWERS_SHOWN.add(Long.valueOf(call.group(3)));
                compare(x, line, call);
            } else {
                Check.isTrue("README.md: a call with its answer: " + line, false);
            }
        }
    }

    private static void compare(AgesTens x, String line, Matcher call) {
        String[] words = call.group(2).isEmpty() ? new String[0] : call.group(2).split(", ");
        for (Method method : AgesTens.class.getDeclaredMethods()) {
            boolean open = Modifier.isPublic(method.getModifiers());
            if (open && method.getName().equals(call.group(1)) && method.getParameterCount() == words.length) {
                Check.due("README.md: " + line, answer(x, method, words), Long.parseLong(call.group(3)));
                return;
            }
        }
        Check.isTrue("README.md: there is such a call: " + line, false);
    }

    private static long answer(AgesTens x, Method method, String[] words) {
        Object[] arguments = new Object[words.length];
        for (int i = 0; i < words.length; i++) {
            arguments[i] = argument(words[i], method.getParameterTypes()[i]);
        }
        try {
            return ((Number) method.invoke(x, arguments)).longValue();
        } catch (InvocationTargetException | IllegalAccessException e) {
            throw new IllegalStateException(method + " was not called", e);
        }
    }

    private static Object argument(String word, Class<?> type) {
        if (type == boolean.class) {
            return Boolean.valueOf(word);
        }
        if (type == long.class) {
            return Long.decode(word.replaceFirst("L$", ""));
        }
        return word.equals("AgesTens.NONE") ? Integer.valueOf(AgesTens.NONE) : Integer.decode(word);
    }

    private static void methods(String text) {
        for (Method method : AgesTens.class.getDeclaredMethods()) {
            if (Modifier.isPublic(method.getModifiers())) {
                String commas = ", ?\\w+".repeat(Math.max(0, method.getParameterCount() - 1));
                String arguments = method.getParameterCount() == 0 ? "" : "\\w+" + commas;
                Pattern row = Pattern.compile("\\| `" + method.getName() + "\\(" + arguments + "\\)` \\| .+ \\|");
                Check.isTrue("README.md says what " + method.getName() + " is for", row.matcher(text).find());
                Check.isTrue("README.md shows a call of " + method.getName(),
                    METHODS_SHOWN.contains(method.getName()));
            }
        }
    }

    private static void specialAnswers(String text) {
        String[] rows = {"`NONE` " + AgesTens.NONE, "`BAD` " + AgesTens.BAD, "`NO` " + AgesTens.NO,
            "`FULL` " + AgesTens.FULL, "-5", "-10"};
        for (String row : rows) {
            Check.isTrue("README.md says what " + row + " means", text.contains("\n| " + row + " | "));
            long number = Long.parseLong(row.replaceAll(".* ", ""));
            Check.isTrue("README.md shows a call that answers " + row, ANSWERS_SHOWN.contains(number));
        }
    }

    private static void howToTest(String text) {
        Check.isTrue("README.md says how to run the tests", text.contains("\n    bash .ci/run\n"));
        Check.isTrue("what it names is there", Files.isExecutable(Path.of(".ci", "run")));
    }
}
