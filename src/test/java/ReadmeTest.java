import java.io.IOException;
import java.lang.reflect.Method;
import java.nio.file.Files;
import java.nio.file.Path;
import java.util.regex.Matcher;
import java.util.regex.Pattern;

/** The calls of README.md's example answer what stands behind them. */
public final class ReadmeTest {
    private static final Pattern CALL = Pattern.compile("archive\\.(\\w+)\\(([^)]*)\\); *// (-?\\d+)(:.*)?");

    public static void main(String[] args) throws IOException, ReflectiveOperationException {
        ParityArchive archive = new ParityArchive();
        int calls = 0;
        for (String line : Files.readAllLines(Path.of("README.md"))) {
            if (line.startsWith("archive.")) {
                checkCall(archive, line);
                calls++;
            }
        }
        Due.due("README.md has an example", calls > 0 ? 1 : 0, 1);
        Due.end();
    }

    private static void checkCall(ParityArchive archive, String line) throws ReflectiveOperationException {
        Matcher call = CALL.matcher(line);
        boolean readable = call.matches();
        Due.due("a call with its answer: " + line, readable ? 1 : 0, 1);
        if (readable) {
            Due.due(line, answer(archive, call.group(1), call.group(2)), Integer.parseInt(call.group(3)));
        }
    }

    private static int answer(ParityArchive archive, String name, String arguments) throws ReflectiveOperationException {
        String[] words = arguments.isEmpty() ? new String[0] : arguments.split(", *");
        Class<?>[] types = new Class<?>[words.length];
        Object[] numbers = new Object[words.length];
        for (int i = 0; i < words.length; i++) {
            types[i] = int.class;
            numbers[i] = Integer.decode(words[i]);
        }
        Method method = ParityArchive.class.getMethod(name, types);
        return (Integer) method.invoke(archive, numbers);
    }
}
