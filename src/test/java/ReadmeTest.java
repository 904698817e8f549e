import java.lang.reflect.Method;
import java.nio.file.Files;
import java.nio.file.Path;
import java.util.Set;
import java.util.TreeSet;
import java.util.regex.Matcher;
import java.util.regex.Pattern;

/** The example of README.md: each of its calls is made and answers what README.md says. */
public final class ReadmeTest extends Checks {
    private static final Pattern EXAMPLE = Pattern.compile("(?s)```java\n(.*?)```");
    private static final Pattern CALL = Pattern.compile("x\\.(\\w+)\\(([^()]*)\\); +// (-?\\w+): .+");
    private static final String NEW_OBJECT = "AirSteps x = new AirSteps();";

    public static void main(String[] args) throws Exception {
        Set<String> called = new TreeSet<>();
        Matcher example = EXAMPLE.matcher(Files.readString(Path.of("README.md")));
        while (example.find()) runExample(example.group(1), called);
        Set<String> face = new TreeSet<>();
        for (Method method : AirSteps.class.getMethods()) {
            if (method.getDeclaringClass() == AirSteps.class) face.add(method.getName());
        }
        due("the calls that README.md shows", called, face);
        end("ReadmeTest");
    }

    private static void runExample(String rows, Set<String> called) throws Exception {
        AirSteps x = null;
        for (String row : rows.split("\n")) {
            Matcher call = CALL.matcher(row);
            if (row.equals(NEW_OBJECT)) {
                x = new AirSteps();
            } else if (x != null && call.matches()) {
                called.add(call.group(1));
                due("README.md: " + row, answer(x, call.group(1), call.group(2)), number(call.group(3)));
            } else {
                due("a row of README.md's example that is no call: " + row, row.isBlank(), true);
            }
        }
    }

    private static int answer(AirSteps x, String name, String list) throws Exception {
        String[] texts = list.isEmpty() ? new String[0] : list.split(", ");
        Object[] arguments = new Object[texts.length];
        Class<?>[] types = new Class<?>[texts.length];
        for (int i = 0; i < texts.length; i++) {
            boolean isTruth = texts[i].equals("true") || texts[i].equals("false");
            types[i] = isTruth ? boolean.class : int.class;
            arguments[i] = isTruth ? (Object) Boolean.valueOf(texts[i]) : (Object) Integer.valueOf(texts[i]);
        }
        return (Integer) AirSteps.class.getMethod(name, types).invoke(x, arguments);
    }

    private static int number(String text) throws Exception {
        boolean isName = Character.isLetter(text.charAt(0));
        return isName ? AirSteps.class.getField(text).getInt(null) : Integer.parseInt(text);
    }
}
