import java.io.IOException;
import java.lang.reflect.Field;
import java.lang.reflect.Method;
import java.lang.reflect.Modifier;
import java.nio.file.Files;
import java.nio.file.Path;
import java.util.regex.Matcher;
import java.util.regex.Pattern;

/** README.md: its example answers as its comments tell, and it names the whole public face. */
final class ReadmeTest extends Checks {
    private static final Pattern MAKING = Pattern.compile("MachPortRights x = new MachPortRights\\((.*)\\);");
    private static final Pattern CALL = Pattern.compile("x\\.(\\w+)\\((.*)\\); +// (-?\\w+): .+");

    public static void main(String[] args) throws IOException, ReflectiveOperationException {
        String text = Files.readString(Path.of("README.md"));
        theExampleAnswersAsItTells(text);
        everyPublicMemberIsNamed(text);
        end();
    }

    private static void theExampleAnswersAsItTells(String text) throws ReflectiveOperationException {
        String begin = "```java\n";
        int from = text.indexOf(begin) + begin.length();
        String[] lines = text.substring(from, text.indexOf("```", from)).split("\n");
        Matcher making = MAKING.matcher(lines[0]);
        due("the example begins with a new object", making.matches(), true);
        int[] sizes = numbers(making.group(1));
        MachPortRights x = new MachPortRights(sizes[0], sizes[1], sizes[2], sizes[3]);
        for (int i = 1; i < lines.length; i++) {
            if (!lines[i].isBlank()) {
                theLineAnswersAsItTells(x, lines[i]);
            }
        }
    }

    private static void theLineAnswersAsItTells(MachPortRights x, String line) throws ReflectiveOperationException {
        Matcher call = CALL.matcher(line);
        due("a call and its answer: " + line, call.matches(), true);
        Object[] arguments = boxed(numbers(call.group(2)));
        for (Method method : MachPortRights.class.getDeclaredMethods()) {
            if (method.getName().equals(call.group(1))) {
                due(line, method.invoke(x, arguments), number(call.group(3)));
                return;
            }
        }
        due("a method of this name: " + line, false, true);
    }

    private static int[] numbers(String list) throws ReflectiveOperationException {
        String[] parts = list.split(", ");
        int[] numbers = new int[parts.length];
        for (int i = 0; i < parts.length; i++) {
            numbers[i] = number(parts[i].replace("MachPortRights.", ""));
        }
        return numbers;
    }

    private static int number(String text) throws ReflectiveOperationException {
        boolean constant = Character.isLetter(text.charAt(0));
        return constant ? MachPortRights.class.getField(text).getInt(null) : Integer.parseInt(text);
    }

    private static Object[] boxed(int[] numbers) {
        Object[] boxes = new Object[numbers.length];
        for (int i = 0; i < numbers.length; i++) {
            boxes[i] = numbers[i];
        }
        return boxes;
    }

    private static void everyPublicMemberIsNamed(String text) {
        for (Field field : MachPortRights.class.getFields()) {
            due("README.md names " + field.getName(), text.contains("`" + field.getName() + "`"), true);
        }
        for (Method method : MachPortRights.class.getDeclaredMethods()) {
            if (Modifier.isPublic(method.getModifiers())) {
                due("README.md names " + method.getName(), text.contains("`" + method.getName() + "("), true);
            }
        }
    }
}
