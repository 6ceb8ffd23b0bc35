import java.lang.reflect.Field;
import java.lang.reflect.Member;
import java.lang.reflect.Method;
import java.lang.reflect.Modifier;
import java.nio.file.Files;
import java.nio.file.Path;
import java.util.Arrays;
import java.util.HashMap;
import java.util.Map;
import java.util.regex.Matcher;
import java.util.regex.Pattern;

/** README.md: its examples, taken as one run of calls, answer what they say, and it names all of the public face. */
public final class ReadmeTest {
    private static final Check check = new Check();
    private static final Pattern BLOCK = Pattern.compile("```java\n(.*?)```", Pattern.DOTALL);
    private static final Pattern MADE =
        Pattern.compile("HeftPlanner planner = new HeftPlanner\\((-?\\d+), (-?\\d+)\\);");
    private static final Pattern CALL =
        Pattern.compile("(?:int (\\w+) = )?planner\\.(\\w+)\\(([^()]*)\\);\\s*// (-?\\w+)(?::.*)?");

    private static final Map<String, Integer> variables = new HashMap<>();
    private static HeftPlanner planner = null;

    public static void main(String[] args) throws Exception {
        String text = Files.readString(Path.of("README.md"));
        examplesAnswerAsTold(text);
        publicFaceIsNamed(text);
        check.end();
    }

    private static void examplesAnswerAsTold(String text) throws ReflectiveOperationException {
        int lines = 0;
        Matcher block = BLOCK.matcher(text);
        while (block.find()) {
            for (String line : block.group(1).split("\n")) {
                follow(line);
                lines++;
            }
        }
        check.holds("there are examples", lines > 0);
    }

    private static void follow(String line) throws ReflectiveOperationException {
        Matcher made = MADE.matcher(line);
        Matcher call = CALL.matcher(line);
        if (made.matches()) {
            planner = new HeftPlanner(number(made.group(1)), number(made.group(2)));
        } else if (call.matches()) {
            int answer = answer(call.group(2), call.group(3));
            check.due(line, answer, number(call.group(4)));
            if (call.group(1) != null) {
                variables.put(call.group(1), answer);
            }
        } else {
            check.holds("a line of an example is a call with its answer: " + line, false);
        }
    }

    private static int answer(String name, String list) throws ReflectiveOperationException {
        String[] words = list.isEmpty() ? new String[0] : list.split(", ");
        Class<?>[] types = new Class<?>[words.length];
        Object[] values = new Object[words.length];
        for (int i = 0; i < words.length; i++) {
            types[i] = int.class;
            values[i] = number(words[i]);
        }
        return (int) HeftPlanner.class.getMethod(name, types).invoke(planner, values);
    }

    private static int number(String word) throws ReflectiveOperationException {
        if (word.matches("-?\\d+")) {
            return Integer.parseInt(word);
        }
        return variables.containsKey(word) ? variables.get(word) : HeftPlanner.class.getField(word).getInt(null);
    }

    private static void publicFaceIsNamed(String text) {
        Method[] methods = HeftPlanner.class.getDeclaredMethods();
        Field[] fields = HeftPlanner.class.getDeclaredFields();
        for (Member[] members : new Member[][] {methods, fields}) {
            Arrays.stream(members).filter(m -> Modifier.isPublic(m.getModifiers())).forEach(m ->
                check.holds("README.md names " + m.getName(), text.matches("(?s).*\\b" + m.getName() + "\\b.*")));
        }
    }
}
