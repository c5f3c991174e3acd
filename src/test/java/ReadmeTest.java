import java.io.IOException;
import java.lang.reflect.InvocationTargetException;
import java.lang.reflect.Method;
import java.nio.charset.StandardCharsets;
import java.nio.file.Files;
import java.nio.file.Path;
import java.util.regex.Matcher;
import java.util.regex.Pattern;

/** Calls each line of README.md that tells an answer behind it. */
public final class ReadmeTest {
    private static final Bench BENCH = new Bench("ReadmeTest");
    private static final Pattern TOLD = Pattern.compile("album\\.(\\w+)\\((.*)\\); +// (-?\\d+|true|false): .*");
    private static final Pattern FED = Pattern.compile("feed\\(album, \"(.*)\"\\)");

    public static void main(String[] args) throws IOException, ReflectiveOperationException {
        MarginAlbum album = new MarginAlbum();
        int told = 0;
        for (String line : Files.readAllLines(Path.of("README.md"), StandardCharsets.UTF_8)) {
            Matcher call = TOLD.matcher(line);
            if (call.matches()) {
                told++;
                BENCH.due(line, answer(album, call.group(1), call.group(2)), worth(call.group(3)));
            }
        }
        BENCH.due("lines of README.md are asked", told > 0, true);
        BENCH.end();
    }

    private static int answer(MarginAlbum album, String name, String arguments)
            throws InvocationTargetException, IllegalAccessException {
        for (Method method : MarginAlbum.class.getMethods()) {
            if (method.getName().equals(name)) {
                return worth(method.invoke(album, values(album, arguments)).toString());
            }
        }
        throw new IllegalStateException("no such call: " + name);
    }

    private static Object[] values(MarginAlbum album, String arguments) {
        Matcher text = FED.matcher(arguments);
        if (text.matches()) {
            Bench.feed(album, Bench.bytesOf(text.group(1)));
            return new Object[] {text.group(1).length()};
        }
        String[] parts = arguments.isEmpty() ? new String[0] : arguments.split(", ");
        Object[] values = new Object[parts.length];
        for (int i = 0; i < parts.length; i++) {
            values[i] = Integer.valueOf(parts[i]);
        }
        return values;
    }

    private static int worth(String answer) {
        return answer.equals("true") ? 1 : answer.equals("false") ? 0 : Integer.parseInt(answer);
    }
}
