import java.io.IOException;
import java.lang.reflect.Method;
import java.lang.reflect.Modifier;
import java.nio.file.Files;
import java.nio.file.Path;
import java.util.TreeSet;
import java.util.regex.Matcher;
import java.util.regex.Pattern;

/** README.md: each call of its example answers what stands behind it, and each call of the face is named. */
public final class ReadmeTest {
    private static final Check check = new Check("ReadmeTest");
    private static final Pattern CALL = Pattern.compile("^x\\.(\\w+)\\(([-0-9, ]*)\\); *// (-?\\d+):", Pattern.MULTILINE);
    private static final Pattern PAGE = Pattern.compile("for \\(char c : \"([^\"]*)\"");

    public static void main(String[] args) throws IOException, ReflectiveOperationException {
        String text = Files.readString(Path.of("README.md"));
        example(text.substring(text.indexOf("```java"), text.lastIndexOf("```")));
        namesEveryCall(text);
        check.end();
    }

    private static void example(String code) throws ReflectiveOperationException {
        Matcher page = PAGE.matcher(code);
        check.holds("the example writes a PAGE", page.find());
        BoundFrames x = new BoundFrames();
        Scene.write(x, page.group(1));
        int calls = 0;
        for (Matcher call = CALL.matcher(code); call.find(); calls++) {
            long due = Long.parseLong(call.group(3));
            check.due(call.group(1) + "(" + call.group(2) + ")", answer(x, call.group(1), call.group(2)), due);
        }
        long lines = code.lines().filter(line -> line.startsWith("x.")).count();
        check.due("each line of the example has its answer", calls, lines);
    }

    private static long answer(BoundFrames x, String name, String list) throws ReflectiveOperationException {
        String[] texts = list.isEmpty() ? new String[0] : list.split(", *");
        Object[] numbers = new Object[texts.length];
        Class<?>[] types = new Class<?>[texts.length];
        for (int i = 0; i < texts.length; i++) {
            numbers[i] = Integer.valueOf(texts[i]);
            types[i] = int.class;
        }
        return ((Number) BoundFrames.class.getMethod(name, types).invoke(x, numbers)).longValue();
    }

    private static void namesEveryCall(String text) {
        TreeSet<String> names = new TreeSet<>();
        for (Method method : BoundFrames.class.getDeclaredMethods()) {
            if (Modifier.isPublic(method.getModifiers())) {
                names.add(method.getName());
            }
        }
        for (String name : names) {
            check.holds("the README names " + name, text.contains("`" + name + "("));
        }
    }
}
