import java.io.IOException;
import java.lang.reflect.InvocationTargetException;
import java.lang.reflect.Method;
import java.nio.file.Files;
import java.nio.file.Path;
import java.util.Set;
import java.util.TreeSet;
import java.util.regex.Matcher;
import java.util.regex.Pattern;

/** Runs the examples of README.md: each comment begins with what the call answers. */
public final class ReadmeTest {
    private static final Checks c = new Checks();
    private static final String BEGIN = "NearlyShut x = new NearlyShut();";
    private static final Pattern CALL = Pattern.compile("x\\.(\\w+)\\(([^)]*)\\); +// (-?\\d+|true|false)(:.*)?");
    private static final Pattern ORDER = Pattern.compile("order\\(x, (\\d), (\\d+), \"([^\"]*)\"\\); +// (-?\\d+)(:.*)?");

    public static void main(String[] args) throws IOException, ReflectiveOperationException {
        Set<String> shown = new TreeSet<>();
        int runs = 0;
        for (String block : Files.readString(Path.of("README.md")).split("```java\n")) {
            if (!block.startsWith(BEGIN)) continue;
            runs++;
            NearlyShut x = new NearlyShut();
            String[] lines = block.substring(0, block.indexOf("```")).split("\n");
            for (int i = 1; i < lines.length; i++) run(x, lines[i], shown);
        }
        c.due("examples were found", runs, 5);
        // the helper that puts a text on the tape is told in the README, but not run from there
        shown.addAll(Set.of("feed", "end", "order"));
        for (Method m : NearlyShut.class.getMethods()) {
            if (m.getDeclaringClass() != NearlyShut.class) continue;
            c.due("an example of " + m.getName(), shown.contains(m.getName()), true);
        }
        c.end("ReadmeTest");
    }

    private static void run(NearlyShut x, String line, Set<String> shown) throws ReflectiveOperationException {
        Matcher order = ORDER.matcher(line);
        if (order.matches()) {
            int got = Checks.order(x, Integer.parseInt(order.group(1)), Integer.parseInt(order.group(2)), order.group(3));
            c.due(line, got, Integer.parseInt(order.group(4)));
            return;
        }
        Matcher call = CALL.matcher(line);
        if (!call.matches()) {
            c.due("a line that can be read: " + line, false, true);
            return;
        }
        shown.add(call.group(1));
        String got = answer(x, call.group(1), call.group(2));
        if (!got.equals(call.group(3))) c.due(line + " (it answers " + got + ")", false, true);
    }

    private static String answer(NearlyShut x, String name, String list) throws ReflectiveOperationException {
        String[] texts = list.isEmpty() ? new String[0] : list.split(", ");
        Object[] values = new Object[texts.length];
        Class<?>[] types = new Class<?>[texts.length];
        for (int i = 0; i < texts.length; i++) {
            boolean is = texts[i].matches("true|false");
            types[i] = is ? boolean.class : int.class;
            if (is) values[i] = texts[i].equals("true");
            else values[i] = Integer.parseInt(texts[i]);
        }
        try {
            return NearlyShut.class.getMethod(name, types).invoke(x, values).toString();
        } catch (InvocationTargetException e) {
            return "by " + e.getCause();
        }
    }
}
