import java.io.IOException;
import java.lang.reflect.InvocationTargetException;
import java.lang.reflect.Method;
import java.lang.reflect.Modifier;
import java.nio.file.Files;
import java.nio.file.Path;
import java.util.ArrayList;
import java.util.Arrays;
import java.util.List;
import java.util.regex.Matcher;
import java.util.regex.Pattern;

/** README.md shows calls with their answers: these have to be the ones that the class gives. */
public final class ReadmeTest {
    private static final Pattern TEXT = Pattern.compile("for \\(char c : \"(.*)\"\\.toCharArray\\(\\)\\) \\{");
    private static final Pattern CALL = Pattern.compile("x\\.(\\w+)\\(([-0-9, ]*)\\); +// (throws )?([^:]+): .*");

    public static void main(String[] args) throws IOException {
        String readme = Files.readString(Path.of("README.md"));
        Matcher block = Pattern.compile("(?s)```java\n(.*?)```").matcher(readme);
        int calls = 0;
        while (block.find()) {
            calls += tryAll(block.group(1));
        }
        Due.same("calls are shown", calls >= 20 ? 1 : 0, 1);
        for (Method method : AnchorChains.class.getDeclaredMethods()) {
            if (Modifier.isPublic(method.getModifiers())) {
                Due.same(method.getName() + " is named", readme.contains("`" + method.getName() + "` (") ? 1 : 0, 1);
            }
        }
        Due.end();
    }

    private static int tryAll(String block) {
        AnchorChains x = new AnchorChains();
        int calls = 0;
        for (String line : block.split("\n")) {
            Matcher text = TEXT.matcher(line);
            Matcher call = CALL.matcher(line);
            if (text.matches()) {
                Due.type(x, text.group(1));
            } else if (call.matches()) {
                String due = call.group(4).equals("NONE") ? "-1" : call.group(4);
                Due.same(line, answer(x, call.group(1), call.group(2)), due);
                calls++;
            } else {
                String plain = "AnchorChains x = new AnchorChains\\(\\);|    x\\.append\\(c\\);|\\}";
                Due.same("\"" + line + "\" is understood", line.matches(plain) ? 1 : 0, 1);
            }
        }
        return calls;
    }

    private static String answer(AnchorChains x, String name, String written) {
        List<Object> arguments = new ArrayList<>();
        for (String argument : written.isEmpty() ? new String[0] : written.split(", ")) {
            arguments.add(Integer.parseInt(argument));
        }
        Class<?>[] types = new Class<?>[arguments.size()];
        Arrays.fill(types, int.class);
        try {
            return String.valueOf(AnchorChains.class.getMethod(name, types).invoke(x, arguments.toArray()));
        } catch (InvocationTargetException e) {
            return e.getCause().getClass().getSimpleName();
        } catch (ReflectiveOperationException e) {
            return "no such call";
        }
    }
}
