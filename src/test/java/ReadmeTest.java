import java.io.IOException;
import java.lang.reflect.Method;
import java.lang.reflect.Modifier;
import java.nio.file.Files;
import java.nio.file.Path;
import java.util.HashMap;
import java.util.Map;
import java.util.regex.Matcher;
import java.util.regex.Pattern;

/** README.md: its examples answer as it says, its helper is the tests' own, and it tells every call. */
public final class ReadmeTest {
    private static final Check CHECK = new Check("ReadmeTest");
    private static final String DUE = "\\s*// (NONE|true|false|-?\\d+)\\b.*";
    private static final Pattern TELL = Pattern.compile("tell\\(saver, \"([^\"]*)\"\\);" + DUE);
    private static final Pattern CALL = Pattern.compile("saver\\.(\\w+)\\(([-\\d, ]*)\\);" + DUE);
    private static final Map<String, Method> METHODS = new HashMap<>();

    public static void main(String[] args) throws IOException, ReflectiveOperationException {
        for (Method method : WakeSaver.class.getDeclaredMethods()) {
            if (Modifier.isPublic(method.getModifiers())) {
                METHODS.put(method.getName(), method);
            }
        }
        String readme = Files.readString(Path.of("README.md"));
        everyCallIsTold(readme);
        Matcher blocks = Pattern.compile("(?s)```java\n(.*?)```").matcher(readme);
        int examples = 0;
        while (blocks.find()) {
            if (blocks.group(1).startsWith("WakeSaver saver = new WakeSaver();\n")) {
                example(blocks.group(1));
                examples++;
            } else {
                helperIsOurs(blocks.group(1));
            }
        }
        CHECK.same("examples", examples, 3);
        CHECK.finish();
    }

    private static void everyCallIsTold(String readme) {
        for (String name : METHODS.keySet()) {
            Matcher told = Pattern.compile("(?m)^\\| `" + name + "\\((.*?)\\)` \\| \\S").matcher(readme);
            boolean found = told.find();
            CHECK.yes("tells " + name, found);
            int parameters = found && !told.group(1).isEmpty() ? told.group(1).split(", ").length : 0;
            CHECK.same("parameters of " + name, parameters, METHODS.get(name).getParameterCount());
        }
    }

    private static void helperIsOurs(String code) throws IOException {
        String ours = Files.readString(Path.of("src/test/java/Check.java")).replaceAll("\\s+", " ");
        for (String method : code.split("\n\n")) {
            CHECK.yes("stands in Check.java: " + method, ours.contains(method.replaceAll("\\s+", " ").strip()));
        }
    }

    private static void example(String code) throws ReflectiveOperationException {
        WakeSaver saver = new WakeSaver();
        String[] lines = code.split("\n");
        for (int k = 1; k < lines.length; k++) {
            Matcher tell = TELL.matcher(lines[k]);
            Matcher call = CALL.matcher(lines[k]);
            if (tell.matches()) {
                CHECK.same(lines[k], Check.tell(saver, tell.group(1)), due(tell.group(2)));
            } else if (call.matches() && METHODS.containsKey(call.group(1))) {
                CHECK.same(lines[k], answer(saver, call.group(1), call.group(2)), due(call.group(3)));
            } else {
                CHECK.yes("a call with its answer: " + lines[k], false);
            }
        }
    }

    private static int answer(WakeSaver saver, String name, String given) throws ReflectiveOperationException {
        String[] numbers = given.isBlank() ? new String[0] : given.split(", ");
        Object[] arguments = new Object[numbers.length];
        for (int k = 0; k < numbers.length; k++) {
            arguments[k] = Integer.valueOf(numbers[k]);
        }
        Object answer = METHODS.get(name).invoke(saver, arguments);
        return answer instanceof Boolean is ? (is ? 1 : 0) : (Integer) answer;
    }

    private static int due(String word) {
        return switch (word) {
            case "NONE" -> WakeSaver.NONE;
            case "true" -> 1;
            case "false" -> 0;
            default -> Integer.parseInt(word);
        };
    }
}
