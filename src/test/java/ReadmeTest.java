import java.io.File;
import java.io.IOException;
import java.lang.reflect.Method;
import java.lang.reflect.Modifier;
import java.nio.file.Files;
import java.nio.file.Path;
import java.util.ArrayList;
import java.util.List;
import java.util.regex.Matcher;
import java.util.regex.Pattern;

/** That README.md tells the truth: its examples are called, its tables are compared with what there is. */
final class ReadmeTest {
    private static final Pattern CALL = Pattern.compile("x\\.(\\w+)\\((.*)\\); +// (-?\\d+|true|false)\\b.*");
    private static final Pattern PUT = Pattern.compile("put\\(x, \"([^\"]*)\"\\);.*");
    private final Check check = new Check();
    private SkyStones x = null;

    public static void main(String[] args) throws ReflectiveOperationException, IOException {
        ReadmeTest test = new ReadmeTest();
        String page = Files.readString(Path.of("README.md"));
        test.examples(page);
        test.calls(page);
        test.tests(page);
        test.check.end();
    }

    private static List<String> blocks(String page) {
        List<String> list = new ArrayList<>();
        Matcher m = Pattern.compile("```java\\n(.*?)```", Pattern.DOTALL).matcher(page);
        while (m.find()) {
            list.add(m.group(1));
        }
        return list;
    }

    /** The first block is the helper, which has to be the one that the tests use; the others are calls. */
    private void examples(String page) throws ReflectiveOperationException, IOException {
        List<String> blocks = blocks(page);
        String helper = Files.readString(Path.of("src/test/java/Check.java")).replaceAll("\\s+", " ");
        check.due("put is the tests' own", helper.contains(blocks.get(0).replaceAll("\\s+", " ").trim()), true);
        for (String block : blocks.subList(1, blocks.size())) {
            for (String line : block.split("\n")) {
                example(line);
            }
        }
    }

    private void example(String line) throws ReflectiveOperationException {
        Matcher put = PUT.matcher(line);
        Matcher call = CALL.matcher(line);
        if (line.equals("SkyStones x = new SkyStones();")) {
            x = new SkyStones();
        } else if (put.matches()) {
            Check.put(x, Check.bytes(put.group(1)));
        } else if (call.matches()) {
            check.due(line, answer(call.group(1), call.group(2)), call.group(3));
        } else {
            check.due("a line that is neither put nor asked: " + line, line, "");
        }
    }

    private String answer(String name, String arguments) throws ReflectiveOperationException {
        String[] words = words(arguments);
        Method method = method(name);
        if (method == null || method.getParameterCount() != words.length) {
            return "no such call";
        }
        Object[] values = new Object[words.length];
        for (int i = 0; i < words.length; i++) {
            boolean truth = method.getParameterTypes()[i] == boolean.class;
            if (truth) {
                values[i] = Boolean.valueOf(words[i]);
            } else {
                values[i] = Integer.valueOf(words[i]);
            }
        }
        return String.valueOf(method.invoke(x, values));
    }

    private static String[] words(String arguments) {
        return arguments.isBlank() ? new String[0] : arguments.split(", ");
    }

    private static Method method(String name) {
        for (Method m : SkyStones.class.getDeclaredMethods()) {
            if (m.getName().equals(name) && Modifier.isPublic(m.getModifiers())) {
                return m;
            }
        }
        return null;
    }

    /** Each row of the table is a call of the face, and each call has one row. */
    private void calls(String page) {
        List<String> rows = new ArrayList<>();
        Matcher m = Pattern.compile("\\n\\| `(\\w+)\\(([^)]*)\\)` \\|").matcher(page);
        while (m.find()) {
            Method method = method(m.group(1));
            int takes = method == null ? -1 : method.getParameterCount();
            check.due("arguments of " + m.group(), words(m.group(2)).length, takes);
            rows.add(m.group(1));
        }
        int open = 0;
        for (Method method : SkyStones.class.getDeclaredMethods()) {
            if (Modifier.isPublic(method.getModifiers())) {
                open++;
                check.due("a row for " + method.getName(), rows.contains(method.getName()), true);
            }
        }
        check.due("rows", rows.size(), open);
    }

    private void tests(String page) {
        String[] names = new File("src/test/java").list();
        for (String name : names == null ? new String[0] : names) {
            if (name.endsWith("Test.java")) {
                String row = "\n| " + name.substring(0, name.length() - 5) + " |";
                check.due("a row for " + name, page.contains(row), true);
            }
        }
    }
}
