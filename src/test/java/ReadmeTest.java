import java.io.IOException;
import java.lang.reflect.Method;
import java.lang.reflect.Modifier;
import java.nio.file.Files;
import java.nio.file.Path;
import java.util.HashMap;
import java.util.Map;
import java.util.regex.Matcher;
import java.util.regex.Pattern;

/** The example of README.md answers what it says there, and its table has each call with its promise's number. */
public final class ReadmeTest {
    private static final Due DUE = new Due();
    private static final Pattern CALL =
        Pattern.compile("(?:int (\\w+) = )?house\\.(\\w+)\\(([^)]*)\\);(?: *// (?:answers (\\S+?)(?::.*)?|.*))?");
    private static final Pattern PROMISE = Pattern.compile("## Promise (\\d+): (\\w+)");

    private final CrystalHouse house = new CrystalHouse();
    private final Map<String, Long> named = new HashMap<>();

    public static void main(String[] args) throws Exception {
        String readme = Files.readString(Path.of("README.md"));
        new ReadmeTest().follow(example(readme));
        holdTable(readme);
        DUE.close("the README's words hold");
    }

    private static String example(String readme) {
        int from = readme.indexOf("```java\n");
        int to = readme.indexOf("```", from + 3);
        return from < 0 || to < 0 ? "" : readme.substring(from + 8, to);
    }

    private void follow(String example) throws Exception {
        int answers = 0;
        for (String line : example.split("\n")) {
            if (line.equals("CrystalHouse house = new CrystalHouse();")) {
                continue;
            }
            Matcher call = CALL.matcher(line);
            DUE.is("'" + line + "' is a call", call.matches(), true);
            if (call.matches()) {
                long got = answer(call.group(2), call.group(3).split(","));
                if (call.group(1) != null) {
                    named.put(call.group(1), got);
                }
                if (call.group(4) != null) {
                    answers++;
                    DUE.is(line, got, numberOf(call.group(4)));
                }
            }
        }
        DUE.is("the example has answers", answers > 20, true);
    }

    private long answer(String name, String[] words) throws Exception {
        for (Method method : CrystalHouse.class.getDeclaredMethods()) {
            if (method.getName().equals(name) && Modifier.isPublic(method.getModifiers())) {
                return longOf(method.invoke(house, argumentsOf(method, words)));
            }
        }
        DUE.is("there is a call " + name, false, true);
        return CrystalHouse.NONE;
    }

    private Object[] argumentsOf(Method method, String[] words) {
        Object[] arguments = new Object[method.getParameterCount()];
        for (int i = 0; i < arguments.length; i++) {
            long number = numberOf(words[i].trim());
            arguments[i] = method.getParameterTypes()[i] == long.class ? (Object) number : (Object) (int) number;
        }
        return arguments;
    }

    private long numberOf(String word) {
        if (word.equals("true") || word.equals("false")) {
            return word.equals("true") ? 1 : 0;
        }
        return named.containsKey(word) ? named.get(word) : Long.decode(word);
    }

    private static long longOf(Object answer) {
        if (answer instanceof Boolean) {
            return (Boolean) answer ? 1 : 0;
        }
        return answer == null ? 0 : ((Number) answer).longValue();
    }

    private static void holdTable(String readme) throws IOException {
        Matcher promise = PROMISE.matcher(Files.readString(Path.of("../shared/DOC.md")));
        int calls = 0;
        while (promise.find()) {
            if (!promise.group(1).equals("1")) {
                calls++;
                String entry = "`" + promise.group(2) + "` " + promise.group(1);
                DUE.is("the table has " + entry, Pattern.compile(entry + "\\b").matcher(readme).find(), true);
            }
        }
        DUE.is("calls that the document promises", calls, 33);
    }
}
