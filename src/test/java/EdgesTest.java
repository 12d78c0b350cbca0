import java.lang.reflect.InvocationTargetException;
import java.lang.reflect.Method;
import java.lang.reflect.Modifier;

/** Each sentence of the document that names a boundary case, by a method of its own that quotes it (Edge.told). */
public final class EdgesTest {
    private static final long[] EXTREMES = {Integer.MIN_VALUE, -1, 0, 1, 8, Integer.MAX_VALUE};
    private static final int CALLS_OF_ONE = 200;

    public static void main(String[] args) {
        EdgesOfDays.run();
        EdgesOfPeople.run();
        EdgesOfBook.run();
        EdgesOfCompanies.run();
        EdgesOfDates.run();
        EdgesOfCrowds.run();
        EdgesOfUntold.run();
        EdgesOfImages.run();
        Edge.everyPromiseIsNamed();
        noCallThrows(Edge::empty);
        noCallThrows(Edge::busy);
        noCallThrows(Edge::brimful);
        Check.end();
    }

    /** Every call with every choice of far numbers, on objects with nothing, something and all in them. */
    private static void noCallThrows(Edge.Maker maker) {
        for (Method call : AgesTens.class.getDeclaredMethods()) {
            if (Modifier.isPublic(call.getModifiers())) {
                callWithExtremes(maker, call);
            }
        }
    }

    private static void callWithExtremes(Edge.Maker maker, Method call) {
        int choices = 1;
        for (int i = 0; i < call.getParameterCount(); i++) {
            choices *= EXTREMES.length;
        }
        AgesTens x = maker.make();
        for (int choice = 0; choice < choices; choice++) {
            if (choice % CALLS_OF_ONE == CALLS_OF_ONE - 1) {
                x = maker.make();
            }
            Check.isTrue(call.getName() + " with choice " + choice + " ends without throwing",
                ends(x, call, argumentsOf(call, choice)));
        }
    }

    private static Object[] argumentsOf(Method call, int choice) {
        Class<?>[] types = call.getParameterTypes();
        Object[] arguments = new Object[types.length];
        int rest = choice;
        for (int i = 0; i < types.length; i++) {
            long n = EXTREMES[rest % EXTREMES.length];
            rest /= EXTREMES.length;
            if (types[i] == boolean.class) {
                arguments[i] = n > 0;
            } else if (types[i] == long.class) {
                arguments[i] = n << 32;
            } else {
                arguments[i] = (int) n;
            }
        }
        return arguments;
    }

    private static boolean ends(AgesTens x, Method call, Object[] arguments) {
        try {
            call.invoke(x, arguments);
            return true;
        } catch (InvocationTargetException | IllegalAccessException e) {
            System.out.println(call.getName() + " threw " + e.getCause());
            return false;
        }
    }
}
