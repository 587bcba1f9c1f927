import java.io.IOException;
import java.lang.reflect.InvocationTargetException;
import java.lang.reflect.Method;
import java.nio.charset.StandardCharsets;
import java.nio.file.Files;
import java.nio.file.Path;
import java.util.regex.Matcher;
import java.util.regex.Pattern;

/** Makes the calls that README.md shows, one behind the other, and looks at the answers that it tells. It runs in the project's directory. */
public final class ReadmeTest {
    private static final Path README = Path.of("README.md");
    private static final Pattern EXAMPLE = Pattern.compile("(?m)^line\\.(\\w+)\\(([^)]*)\\); +// (-?\\w+)(:.*)?$");

    public static void main(String[] args) throws IOException, ReflectiveOperationException {
        String text = Files.readString(README, StandardCharsets.UTF_8);
        PolledLine line = new PolledLine();
        int examples = 0;
        Matcher matcher = EXAMPLE.matcher(text);
        while (matcher.find()) {
            Check.due(matcher.group(), answer(line, matcher.group(1), matcher.group(2)), matcher.group(3));
            examples++;
        }
        Check.due("all calls that are shown have an answer", examples, text.split("(?m)^line\\.").length - 1);
        Check.due("calls are shown", examples > 0, true);
        Matcher setup = Pattern.compile("(?m)^    (terminal .*)\n    (.*)$").matcher(text);
        Check.due("a setup is shown", setup.find(), true);
        Check.due("terminals of the setup that is shown", Check.loaded(setup.group(1) + "\n" + setup.group(2)).count(0), 2);
        outputIsAsShown(text);
        Check.end();
    }

    /** The output that the page quotes, behind the same calls. */
    private static void outputIsAsShown(String text) throws ReflectiveOperationException {
        PolledLine line = new PolledLine();
        Matcher matcher = EXAMPLE.matcher(text);
        while (matcher.find() && !matcher.group(1).equals("outputByte")) {
            answer(line, matcher.group(1), matcher.group(2));
        }
        Check.due("the output is quoted", text.contains('"' + Check.output(line) + '"'), true);
    }

    private static String answer(PolledLine line, String name, String arguments) throws ReflectiveOperationException {
        String[] texts = arguments.isEmpty() ? new String[0] : arguments.split(", ");
        Object[] numbers = new Object[texts.length];
        Class<?>[] types = new Class<?>[texts.length];
        for (int i = 0; i < texts.length; i++) {
            numbers[i] = texts[i].equals("PolledLine.NONE") ? PolledLine.NONE : Long.decode(texts[i]).intValue();
            types[i] = int.class;
        }
        Method method = PolledLine.class.getMethod(name, types);
        try {
            return String.valueOf(method.invoke(line, numbers));
        } catch (InvocationTargetException e) {
            return e.getCause().toString();
        }
    }
}
