import java.lang.reflect.Array;
import java.lang.reflect.Field;
import java.lang.reflect.InvocationTargetException;
import java.lang.reflect.Method;
import java.lang.reflect.Modifier;
import java.util.List;
import java.util.function.IntConsumer;

/** Compares answers with what is due, prints the wrong ones and counts them. */
final class Check {
    private int wrong = 0;
    private int made = 0;

    int wrong() {
        return wrong;
    }

    void due(String call, long got, long want) {
        made++;
        if (got != want) {
            wrong++;
            System.out.println(call + " answered " + got + ", due is " + want);
        }
    }

    void due(String call, boolean got, boolean want) {
        due(call, got ? 1 : 0, want ? 1 : 0);
    }

    /**
     * The call must throw exactly this exception, by a throw of the class itself, and leave every field of
     * the object as it was.
     */
    void dueThrow(String call, RegisterGateway x, Class<? extends RuntimeException> want, Runnable body) {
        made++;
        String before = state(x);
        RuntimeException got = null;
        try {
            body.run();
        } catch (RuntimeException e) {
            got = e;
        }
        if (got == null || got.getClass() != want) {
            wrong++;
            System.out.println(call + " threw " + got + ", due is " + want.getName());
        } else if (!isThrownByClass(got)) {
            wrong++;
            System.out.println(call + ": the library threw, not the class");
        } else if (!before.equals(state(x))) {
            wrong++;
            System.out.println(call + " threw and changed the object");
        }
    }

    /** A list's get would throw an IndexOutOfBoundsException, too, but by itself. */
    private static boolean isThrownByClass(RuntimeException e) {
        StackTraceElement[] trace = e.getStackTrace();
        return trace.length > 0 && trace[0].getClassName().startsWith("RegisterGateway");
    }

    void outOfBounds(String call, RegisterGateway x, Runnable body) {
        dueThrow(call, x, IndexOutOfBoundsException.class, body);
    }

    void illegalArgument(String call, RegisterGateway x, Runnable body) {
        dueThrow(call, x, IllegalArgumentException.class, body);
    }

    void illegalState(String call, RegisterGateway x, Runnable body) {
        dueThrow(call, x, IllegalStateException.class, body);
    }

    /** The call must take the least and the greatest number of a range, and refuse those beyond. */
    void range(String call, RegisterGateway x, int least, int greatest,
            Class<? extends RuntimeException> refusal, IntConsumer body) {
        for (int taken : new int[] {least, greatest}) {
            due(call + ", " + taken + " is taken", taken(body, taken), true);
        }
        refused(call, x, refusal, body, least - 1, greatest + 1, Integer.MIN_VALUE, Integer.MAX_VALUE);
    }

    /** Each of these numbers must be refused. */
    void refused(String call, RegisterGateway x, Class<? extends RuntimeException> refusal, IntConsumer body,
            int... numbers) {
        for (int number : numbers) {
            dueThrow(call + ", " + number, x, refusal, () -> body.accept(number));
        }
    }

    private static boolean taken(IntConsumer body, int number) {
        try {
            body.accept(number);
            return true;
        } catch (RuntimeException e) {
            return false;
        }
    }

    /** Runs every test of a class, a private method without parameters each, so that none is forgotten. */
    void runAll(Class<?> tests) {
        for (Method method : tests.getDeclaredMethods()) {
            if (method.getParameterCount() == 0 && method.getReturnType() == void.class && !method.isSynthetic()) {
                try {
                    method.setAccessible(true);
                    method.invoke(null);
                } catch (IllegalAccessException e) {
                    throw new IllegalStateException(e);
                } catch (InvocationTargetException e) {
                    wrong++;
                    System.out.println(method.getName() + " ended with " + e.getCause());
                }
            }
        }
        end(tests.getSimpleName());
    }

    /** All fields of the object and of what it holds, as text, but for the copy that leastDrain tries steps on. */
    static String state(Object object) {
        StringBuilder text = new StringBuilder();
        describe(object, text);
        return text.toString();
    }

    private static void describe(Object object, StringBuilder text) {
        if (object == null || object instanceof Number || object instanceof Boolean || object instanceof Character) {
            text.append(object).append(' ');
        } else if (object instanceof List<?> list) {
            text.append(list.size()).append("[ ");
            list.forEach(o -> describe(o, text));
            text.append("] ");
        } else if (object.getClass().isArray()) {
            for (int i = 0; i < Array.getLength(object); i++) {
                describe(Array.get(object, i), text);
            }
        } else {
            describeFields(object, text);
        }
    }

    private static void describeFields(Object object, StringBuilder text) {
        text.append("{ ");
        for (Field field : object.getClass().getDeclaredFields()) {
            if (!Modifier.isStatic(field.getModifiers()) && !field.getName().equals("trial")) {
                try {
                    field.setAccessible(true);
                    describe(field.get(object), text);
                } catch (IllegalAccessException e) {
                    throw new IllegalStateException(e);
                }
            }
        }
        text.append("} ");
    }

    /** Ends the test: exit code 1 if an answer was wrong or none was looked at. */
    void end(String name) {
        System.out.println(name + ": " + made + " answers, " + wrong + " wrong");
        if (wrong != 0 || made == 0) {
            System.exit(1);
        }
    }
}
