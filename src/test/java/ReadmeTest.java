import java.io.IOException;
import java.lang.reflect.Method;
import java.lang.reflect.Modifier;
import java.nio.file.Files;
import java.nio.file.Path;
import java.util.regex.Matcher;
import java.util.regex.Pattern;

/** README.md: its example answers as it says, and no call goes unnamed there. */
public final class ReadmeTest {
    private static final Check CHECK = new Check();
    private static final Pattern TEXT = Pattern.compile("\"([^\"]*)\"\\.toCharArray\\(\\)");
    private static final Pattern ASKED = Pattern.compile("(?m)^x\\.(\\w+)\\(([^)]*)\\);\\s*// (-?\\d+): .*$");

    public static void main(String[] args) throws IOException, ReflectiveOperationException {
        String page = Files.readString(Path.of("README.md"));
        example(page);
        for (Method m : EveningPoach.class.getDeclaredMethods()) {
            boolean isPublic = Modifier.isPublic(m.getModifiers());
            CHECK.holds(m.getName() + " is named in README.md", !isPublic || page.contains("`" + m.getName() + "("));
        }
        CHECK.finish("ReadmeTest");
    }

    private static void example(String page) throws ReflectiveOperationException {
        EveningPoach x = new EveningPoach();
        Matcher text = TEXT.matcher(page);
        CHECK.holds("README.md tells a text", text.find());
        Check.feed(x, text.group(1));
        Matcher asked = ASKED.matcher(page);
        int lines = 0;
        while (asked.find()) {
            lines++;
            CHECK.due("README.md: " + asked.group(), answer(x, asked.group(1), asked.group(2)), Long.parseLong(asked.group(3)));
        }
        CHECK.due("README.md tells an answer for each call", lines, page.split("(?m)^x\\.", -1).length - 1);
        CHECK.holds("README.md asks something", lines > 0);
    }

    private static long answer(EveningPoach x, String name, String written) throws ReflectiveOperationException {
        String[] parts = written.isEmpty() ? new String[0] : written.split(", ");
        Class<?>[] types = new Class<?>[parts.length];
        Object[] numbers = new Object[parts.length];
        for (int i = 0; i < parts.length; i++) {
            types[i] = int.class;
            numbers[i] = Integer.valueOf(parts[i]);
        }
        return ((Number) EveningPoach.class.getMethod(name, types).invoke(x, numbers)).longValue();
    }
}
