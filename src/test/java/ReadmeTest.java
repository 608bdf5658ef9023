import java.io.IOException;
import java.lang.reflect.Method;
import java.lang.reflect.Modifier;
import java.nio.file.Files;
import java.nio.file.Path;
import java.util.regex.Matcher;
import java.util.regex.Pattern;

/** What README.md tells of the use of the class: the calls of its example have the answers that stand beside them. */
public final class ReadmeTest extends Checks {
    private static final Pattern MAKING = Pattern.compile("QuorumCells cells = new QuorumCells\\((-?\\d+)\\);");
    private static final Pattern CALL = Pattern.compile("cells\\.(\\w+)\\(([-\\d, ]*)\\);\\s+// (-?\\w+)\\b.*");

    public static void main(String[] args) throws IOException, ReflectiveOperationException {
        about("README.md");
        String text = Files.readString(Path.of("README.md"));
        exampleAnswersAsTold(text);
        everyMethodIsTold(text);
        end();
    }

    private static void exampleAnswersAsTold(String text) throws ReflectiveOperationException {
        String[] lines = text.substring(text.indexOf("```java\n") + 8).split("\n");
        Matcher making = MAKING.matcher(lines[0]);
        due("the first line makes the object", making.matches() ? 1 : 0, 1);
        QuorumCells cells = new QuorumCells(Integer.parseInt(making.group(1)));
        int at = 1;
        while (!lines[at].equals("```")) {
            Matcher call = CALL.matcher(lines[at]);
            if (due("is a call with its answer: " + lines[at], call.matches() ? 1 : 0, 1)) {
                due(lines[at], answer(cells, call.group(1), call.group(2)), number(call.group(3)));
            }
            at++;
        }
    }

    private static long answer(QuorumCells cells, String name, String list) throws ReflectiveOperationException {
        String[] numbers = list.isEmpty() ? new String[0] : list.split(", ");
        Class<?>[] types = new Class<?>[numbers.length];
        Object[] arguments = new Object[numbers.length];
        for (int i = 0; i < numbers.length; i++) {
            types[i] = int.class;
            arguments[i] = Integer.valueOf(numbers[i]);
        }
        Method method = QuorumCells.class.getMethod(name, types);
        return ((Number) method.invoke(cells, arguments)).longValue();
    }

    private static long number(String told) {
        return switch (told) {
            case "REFUSED" -> REFUSED;
            case "UNAVAILABLE" -> UNAVAILABLE;
            case "ABSENT" -> ABSENT;
            case "NONE" -> NONE;
            default -> Long.parseLong(told);
        };
    }

    private static void everyMethodIsTold(String text) {
        for (Method method : QuorumCells.class.getDeclaredMethods()) {
            if (Modifier.isPublic(method.getModifiers())) {
                String name = method.getName();
                due("the table has " + name, text.contains("\n| `" + name + "(") ? 1 : 0, 1);
                due("the example has " + name, text.contains("\ncells." + name + "(") ? 1 : 0, 1);
            }
        }
    }
}
