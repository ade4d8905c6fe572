import java.io.IOException;
import java.lang.reflect.Method;
import java.lang.reflect.Modifier;
import java.nio.charset.StandardCharsets;
import java.nio.file.Files;
import java.nio.file.Path;
import java.util.regex.Matcher;
import java.util.regex.Pattern;

/** README.md shows each call of its example with its answer: the class must give it, and every call must be named. */
public final class ReadmeTest {
    private static final Check check = new Check("ReadmeTest");

    public static void main(String[] args) throws IOException {
        String whole = Files.readString(Path.of("README.md"), StandardCharsets.UTF_8);
        example(whole);
        namesAll(whole);
        check.end();
    }

    private static void example(String whole) {
        Matcher text = Pattern.compile("String text = \"([^\"]*)\"").matcher(whole);
        check.due("README.md tells a dale", text.find() ? 1 : 0, 1);
        StringBuilder calls = new StringBuilder("<" + text.group(1).replace(' ', '_') + ">");
        Matcher call = Pattern.compile("(?m)^x\\.(\\w+\\(.*?\\)); +// (-?\\w+):").matcher(whole);
        int shown = 0;
        while (call.find()) {
            shown++;
            calls.append(' ').append(call.group(1).replace(" ", "")).append('=').append(call.group(2));
        }
        check.due("README.md shows its calls with their answers", shown, whole.split("\nx\\.").length - 1);
        Script.run(check, "README.md", null, calls.toString());
    }

    private static void namesAll(String whole) {
        for (Method method : BeckTalk.class.getDeclaredMethods()) {
            boolean open = Modifier.isPublic(method.getModifiers());
            boolean named = whole.contains("`" + method.getName() + "`");
            check.due("README.md names " + method.getName(), open && !named ? 0 : 1, 1);
        }
    }
}
