import java.io.IOException;
import java.lang.reflect.InvocationTargetException;
import java.lang.reflect.Method;
import java.nio.file.Files;
import java.nio.file.Path;
import java.util.HashMap;
import java.util.Map;
import java.util.regex.Matcher;
import java.util.regex.Pattern;

/** What README.md says of the calls in its examples is what they answer, one after another on one object. */
public final class ReadmeTest {
    private static final Pattern TEXT = Pattern.compile("write\\(x, \"([^\"]*)\"\\);.*");
    private static final Pattern CALL = Pattern.compile("x\\.(\\w+)\\(([-0-9, ]*)\\); +// (-?\\w+).*");
    private static final int LEAST_CALLS = 40;

    private final FairWheel x = new FairWheel();
    private final Map<String, Method> face = new HashMap<>();
    private final Map<String, Integer> words = Map.of("NONE", FairWheel.NONE, "UNKNOWN", FairWheel.UNKNOWN,
            "OUTSIDE", FairWheel.OUTSIDE, "STATE", FairWheel.STATE, "FULL", FairWheel.FULL, "NO", FairWheel.NO);
    private int calls = 0;

    private ReadmeTest() {
        for (Method m : FairWheel.class.getMethods()) {
            if (m.getDeclaringClass() == FairWheel.class) {
                face.put(m.getName(), m);
            }
        }
    }

    public static void main(String[] args) throws IOException, ReflectiveOperationException {
        ReadmeTest test = new ReadmeTest();
        String readme = Files.readString(Path.of("README.md"));
        boolean inJava = false;
        for (String line : readme.split("\n")) {
            if (line.startsWith("```")) {
                inJava = line.equals("```java");
            } else if (inJava) {
                test.example(line);
            }
        }
        Check.dueThat("the examples are found", test.calls >= LEAST_CALLS);
        for (String name : test.face.keySet()) {
            Check.dueThat("README.md tells of " + name, readme.contains("`" + name) || readme.contains("." + name));
        }
        Check.end();
    }

    private void example(String line) throws IllegalAccessException, InvocationTargetException {
        Matcher text = TEXT.matcher(line);
        Matcher call = CALL.matcher(line);
        if (text.matches()) {
            for (char sign : text.group(1).toCharArray()) {
                x.say(sign);
            }
        } else if (call.matches()) {
            String due = call.group(3);
            Check.due(line, answer(call.group(1), call.group(2)),
                    words.containsKey(due) ? words.get(due) : Long.parseLong(due));
            calls++;
        } else {
            Check.dueThat(line + " is understood", line.equals("FairWheel x = new FairWheel();"));
        }
    }

    private long answer(String name, String numbers) throws IllegalAccessException, InvocationTargetException {
        String[] told = numbers.isEmpty() ? new String[0] : numbers.split(", ");
        Object[] given = new Object[told.length];
        for (int i = 0; i < told.length; i++) {
            given[i] = Integer.valueOf(told[i]);
        }
        return ((Number) face.get(name).invoke(x, given)).longValue();
    }
}
