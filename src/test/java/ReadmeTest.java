import java.io.IOException;
import java.nio.file.Files;
import java.nio.file.Path;
import java.util.regex.Matcher;
import java.util.regex.Pattern;

/** The calls that README.md makes answer as it says. */
public final class ReadmeTest {
    private static final Pattern CALL = Pattern.compile("peal\\.(\\w+)\\(([^)]*)\\); *// (-?\\d+): .*");
    private static final Pattern TEXT = Pattern.compile("for \\(char sign : \"([^\"]*)\"\\.toCharArray\\(\\)\\) \\{");
    private static final String NEW = "PealOfExcuses peal = new PealOfExcuses();";

    private final Checks c = new Checks("ReadmeTest");
    private Run run;
    private int calls;

    public static void main(String[] args) throws IOException {
        ReadmeTest test = new ReadmeTest();
        boolean inside = false;
        for (String line : Files.readAllLines(Path.of("README.md"))) {
            inside = line.equals(NEW) || inside && !line.equals("```");
            if (inside) {
                test.play(line);
            }
        }
        test.c.holds("it makes calls", test.calls > 20);
        test.c.end();
    }

    private void play(String line) {
        Matcher call = CALL.matcher(line);
        Matcher text = TEXT.matcher(line);
        if (line.equals(NEW)) {
            run = new Run();
        } else if (call.matches()) {
            calls++;
            c.due(line, run.call(call.group(1), arguments(call.group(1), call.group(2))), Long.parseLong(call.group(3)));
        } else if (text.matches()) {
            for (char sign : text.group(1).toCharArray()) {
                run.call("feed", (int) sign);
            }
        } else {
            c.holds("a line that is known: " + line, line.equals("    peal.feed(sign);") || line.equals("}"));
        }
    }

    private static Object[] arguments(String name, String told) {
        Class<?>[] types = Run.types(name);
        String[] words = told.isEmpty() ? new String[0] : told.split(", ");
        Object[] args = new Object[words.length];
        for (int k = 0; k < words.length; k++) {
            args[k] = types[k] == long.class ? (Object) Long.parseLong(words[k]) : (Object) Integer.parseInt(words[k]);
        }
        return args;
    }
}
