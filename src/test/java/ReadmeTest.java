import java.lang.reflect.Method;
import java.nio.file.Files;
import java.nio.file.Path;
import java.util.HashSet;
import java.util.Set;
import java.util.regex.Matcher;
import java.util.regex.Pattern;

/** The examples of README.md, one behind the other on one drum: each call answers what its comment begins with. */
public final class ReadmeTest {
    private static final Pattern TEXT = Pattern.compile("^String text = \"(.*)\";$");
    private static final Pattern CALL = Pattern.compile("^drum\\.(\\w+)\\((.*?)\\); +// (-?\\w+).*$");

    private static final Set<String> tried = new HashSet<>();

    public static void main(String[] args) throws Exception {
        FarDrum drum = new FarDrum();
        boolean isCode = false;
        for (String line : Files.readAllLines(Path.of("README.md"))) {
            if (line.startsWith("```")) {
                isCode = line.equals("```java");
            } else if (isCode) {
                follow(drum, line);
            }
        }
        everyPartIsShown();
        Check.finish();
    }

    private static void follow(FarDrum drum, String line) throws Exception {
        Matcher text = TEXT.matcher(line);
        Matcher call = CALL.matcher(line);
        if (text.matches()) {
            Check.type(drum, text.group(1));
        } else if (call.matches()) {
            tried.add(call.group(1));
            Check.due(line, ask(drum, call.group(1), call.group(2)), answer(call.group(3)));
        } else {
            Check.due(line + " is a call with its answer", line.startsWith("drum.") ? 0 : 1, 1);
        }
    }

    private static long ask(FarDrum drum, String name, String numbers) throws Exception {
        String[] told = numbers.isEmpty() ? new String[0] : numbers.split(", ");
        Object[] given = new Object[told.length];
        for (int i = 0; i < told.length; i++) given[i] = Integer.valueOf(told[i]);
        for (Method method : FarDrum.class.getMethods()) {
            if (method.getName().equals(name)) return ((Number) method.invoke(drum, given)).longValue();
        }
        throw new IllegalArgumentException("README.md tells a call that there is not: " + name);
    }

    private static long answer(String word) throws Exception {
        boolean isNumber = word.matches("-?\\d+");
        return isNumber ? Long.parseLong(word) : FarDrum.class.getField(word).getInt(null);
    }

    /** A page whose examples were not found at all must not pass. */
    private static void everyPartIsShown() {
        for (String name : "valley hears strikes undo inStrokes round mules mayBe tooMany meet odds rate back".split(" ")) {
            Check.due("whether README.md shows " + name + "()", tried.contains(name) ? 1 : 0, 1);
        }
    }
}
