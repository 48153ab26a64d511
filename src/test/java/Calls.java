import java.lang.reflect.Method;
import java.util.Arrays;
import java.util.regex.Matcher;
import java.util.regex.Pattern;

/** Calls by name, and calls told as text, "frost(40) cut(0)", so that tests can list them in rows. */
final class Calls {
    private static final Pattern CALL = Pattern.compile("(\\w+)\\(([^)]*)\\)");

    private Calls() {
    }

    static int ask(Object who, String call, int... numbers) {
        Object[] arguments = Arrays.stream(numbers).boxed().toArray();
        Class<?>[] types = new Class<?>[numbers.length];
        Arrays.fill(types, int.class);
        try {
            Method method = who.getClass().getDeclaredMethod(call, types);
            return (Integer) method.invoke(who, arguments);
        } catch (ReflectiveOperationException e) {
            throw new IllegalStateException(call + Arrays.toString(numbers), e);
        }
    }

    /** Makes all calls of a text: what the last one answers. */
    static int run(Object who, String calls) {
        int answer = 0;
        Matcher m = CALL.matcher(calls);
        while (m.find()) {
            answer = ask(who, m.group(1), numbers(m.group(2)));
        }
        return answer;
    }

    static int[] numbers(String text) {
        return Arrays.stream(text.split(",")).map(String::trim).filter(s -> !s.isEmpty())
                .mapToInt(Integer::parseInt).toArray();
    }

    static String text(String call, int... numbers) {
        return call + Arrays.toString(numbers).replace('[', '(').replace(']', ')');
    }
}
