import java.io.IOException;
import java.lang.reflect.Method;
import java.lang.reflect.Modifier;
import java.nio.file.Files;
import java.nio.file.Path;
import java.util.regex.Matcher;
import java.util.regex.Pattern;

/** README.md: its example answers what it says, and it has each call of the face. */
public final class ReadmeTest {
    private static final Due due = new Due("README.md");
    private static final Pattern PICTURE = Pattern.compile("String picture = \"([^\"]*)\";");
    private static final Pattern CALL = Pattern.compile("int \\w+ = boards\\.(\\w+)\\((\\d*)\\); +// (-?\\d+):.*");

    public static void main(String[] args) throws IOException, ReflectiveOperationException {
        String readme = Files.readString(Path.of("README.md"));
        example(readme);
        table(readme);
        due.end();
    }

    private static void example(String readme) throws ReflectiveOperationException {
        Matcher picture = PICTURE.matcher(readme);
        due.is("the example has a picture", picture.find(), true);
        PushBoards boards = new PushBoards();
        for (char u : picture.group(1).toCharArray()) {
            boards.unit(u);
        }
        int calls = 0;
        for (Matcher call = CALL.matcher(readme); call.find(); calls++) {
            String name = call.group(1) + "(" + call.group(2) + ")";
            due.is(name, answer(boards, call.group(1), call.group(2)), Integer.parseInt(call.group(3)));
        }
        due.is("calls of the example that are looked at", calls, 7);
    }

    private static int answer(PushBoards boards, String name, String argument) throws ReflectiveOperationException {
        if (argument.isEmpty()) {
            return (int) PushBoards.class.getMethod(name).invoke(boards);
        }
        return (int) PushBoards.class.getMethod(name, int.class).invoke(boards, Integer.parseInt(argument));
    }

    private static void table(String readme) {
        for (Method method : PushBoards.class.getDeclaredMethods()) {
            if (Modifier.isPublic(method.getModifiers())) {
                int count = method.getParameterCount();
                Matcher line = Pattern.compile("\\| `" + method.getName() + "\\(([^)]*)\\)` \\|").matcher(readme);
                due.is(method.getName() + " is in the table", line.find(), true);
                due.is(method.getName() + " arguments", line.group(1).isEmpty() ? 0 : line.group(1).split(",").length, count);
            }
        }
    }
}
