import java.io.IOException;
import java.lang.reflect.InvocationTargetException;
import java.lang.reflect.Method;
import java.nio.file.Files;
import java.nio.file.Path;
import java.util.ArrayList;
import java.util.List;
import java.util.NoSuchElementException;
import java.util.regex.Matcher;
import java.util.regex.Pattern;

/** README.md is run: each row of its example with an answer behind it, and the feeding that it shows. */
public final class ReadmeTest {
    private static final Pattern FEED = Pattern.compile("feed\\(x, \"([^\"]*)\"\\);");
    private static final Pattern CALL = Pattern.compile("x\\.(\\w+)\\(([^)]*)\\); +// ([^:]+): .*");
    private static final int LEAST_ANSWERS = 40;

    private final PaidSecrets x = new PaidSecrets();
    private int answers = 0;

    public static void main(String[] args) throws IOException, IllegalAccessException {
        List<List<String>> blocks = blocks(Files.readAllLines(Path.of("README.md")));
        Check.due("blocks of java in README.md", blocks.size(), 2);
        feedingIsTheTests(blocks.get(0));
        new ReadmeTest().example(blocks.get(1));
        everyCallIsNamed(Files.readString(Path.of("README.md")));
        Check.end();
    }

    private static List<List<String>> blocks(List<String> rows) {
        List<List<String>> blocks = new ArrayList<>();
        boolean inside = false;
        for (String row : rows) {
            if (row.equals("```java")) {
                blocks.add(new ArrayList<>());
                inside = true;
            } else if (row.startsWith("```")) {
                inside = false;
            } else if (inside) {
                blocks.get(blocks.size() - 1).add(row);
            }
        }
        return blocks;
    }

    /** What the page shows for feeding a text is what all tests here feed by. */
    private static void feedingIsTheTests(List<String> shown) throws IOException {
        String check = Files.readString(Path.of("src/test/java/support/Check.java"));
        for (String row : shown) {
            Check.due("Check has: " + row, check.contains(row.strip()), true);
        }
    }

    private void example(List<String> rows) throws IllegalAccessException {
        Check.due("first row makes an object: " + rows.get(0), rows.get(0).contains("new PaidSecrets()"), true);
        for (String row : rows.subList(1, rows.size())) {
            Matcher feed = FEED.matcher(row);
            Matcher call = CALL.matcher(row);
            if (feed.matches()) {
                Check.feed(x, feed.group(1));
            } else if (call.matches()) {
                answer(row, call.group(1), call.group(2), call.group(3));
            } else {
                Check.due("a row that can be run: " + row, false, true);
            }
        }
        Check.due("rows with an answer", answers >= LEAST_ANSWERS, true);
    }

    private void answer(String row, String name, String args, String due) throws IllegalAccessException {
        Method method = method(name);
        answers++;
        String got;
        try {
            got = String.valueOf(method.invoke(x, values(method, args)));
        } catch (InvocationTargetException e) {
            got = e.getCause() instanceof NoSuchElementException ? "throws" : String.valueOf(e.getCause());
        }
        Check.due(row + " (it answered " + got + ")", got.equals(due), true);
    }

    private static Method method(String name) {
        for (Method method : PaidSecrets.class.getMethods()) {
            if (method.getName().equals(name)) {
                return method;
            }
        }
        throw new IllegalArgumentException("README.md calls " + name);
    }

    private static Object[] values(Method method, String args) {
        String[] parts = args.isEmpty() ? new String[0] : args.split(", ");
        Object[] values = new Object[parts.length];
        for (int i = 0; i < parts.length; i++) {
            if (method.getParameterTypes()[i] == boolean.class) {
                values[i] = Boolean.valueOf(parts[i]);
            } else {
                values[i] = parts[i].equals("PaidSecrets.NONE") ? PaidSecrets.NONE : Integer.parseInt(parts[i]);
            }
        }
        return values;
    }

    private static void everyCallIsNamed(String page) {
        for (Method method : PaidSecrets.class.getDeclaredMethods()) {
            if (java.lang.reflect.Modifier.isPublic(method.getModifiers())) {
                Check.due("README.md names " + method.getName(), page.contains("`" + method.getName() + "`"), true);
            }
        }
    }
}
