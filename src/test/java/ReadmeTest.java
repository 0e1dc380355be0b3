import java.io.IOException;
import java.lang.reflect.Method;
import java.nio.file.Files;
import java.nio.file.Path;
import java.util.Arrays;
import java.util.regex.Matcher;
import java.util.regex.Pattern;

/** README.md's example, line by line, on one object: each line answers the number that it says. */
public final class ReadmeTest {
    private static final Pattern TEXT = Pattern.compile("\"(b[^\"]*;)\"\\.toCharArray");
    private static final Pattern LINE = Pattern.compile("(?m)^x\\.(\\w+)\\(([^)]*)\\);\\s*// (-?\\d+)");
    private static final int FEWEST_LINES = 25;

    public static void main(String[] args) throws IOException, ReflectiveOperationException {
        Due due = new Due();
        String readme = Files.readString(Path.of("README.md"));
        Matcher text = TEXT.matcher(readme);
        due.is("README.md tells a text", text.find() ? 1 : 0, 1);
        BellSuitors x = new BellSuitors();
        Fed.feed(x, text.group(1));
        int lines = 0;
        Matcher line = LINE.matcher(readme);
        while (line.find()) {
            due.is("README.md: " + line.group(), answer(x, line.group(1), line.group(2)), Integer.parseInt(line.group(3)));
            lines++;
        }
        due.is("README.md has so many lines with an answer: " + lines, lines >= FEWEST_LINES ? 1 : 0, 1);
        for (Method call : BellSuitors.class.getDeclaredMethods()) {
            boolean isPublic = java.lang.reflect.Modifier.isPublic(call.getModifiers());
            due.is("README.md names " + call.getName(), !isPublic || readme.contains("`" + call.getName() + "`") ? 1 : 0, 1);
        }
        due.end();
    }

    private static int answer(BellSuitors x, String name, String told) throws ReflectiveOperationException {
        Object[] numbers = Arrays.stream(told.split(",")).map(String::trim).filter(s -> !s.isEmpty()).map(Integer::valueOf).toArray();
        Class<?>[] types = new Class<?>[numbers.length];
        Arrays.fill(types, int.class);
        return (int) BellSuitors.class.getMethod(name, types).invoke(x, numbers);
    }
}
