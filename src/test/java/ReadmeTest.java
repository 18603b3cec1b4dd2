import java.io.File;
import java.io.IOException;
import java.lang.reflect.Method;
import java.lang.reflect.Modifier;
import java.nio.file.Files;
import java.nio.file.Path;
import java.util.regex.Matcher;
import java.util.regex.Pattern;

/** README.md: its example, called as it stands there, and that no call and no test is left out. */
final class ReadmeTest {
    private static final Check CHECK = new Check();
    private static final Pattern CALL = Pattern.compile("hair\\.(\\w+)\\(([^)]*)\\);\\s*//([^\n]*)");

    public static void main(String[] args) throws IOException, ReflectiveOperationException {
        CHECK.about("README.md");
        String readme = Files.readString(Path.of("README.md"));
        example(readme);
        calls(readme);
        tests(readme);
        CHECK.end();
    }

    /** Each call of the example; what stands behind its last colon is the answer that is due. */
    private static void example(String readme) throws ReflectiveOperationException {
        SeaHair hair = new SeaHair();
        StringBuilder text = new StringBuilder();
        int held = 0;
        Matcher matcher = CALL.matcher(readme);
        while (matcher.find()) {
            String name = matcher.group(1);
            int[] given = numbers(matcher.group(2));
            long got = answer(hair, name, given);
            if (name.equals("feed")) {
                text.append(matcher.group(3).replaceAll("^ \"|\"$", ""));
                CHECK.due("a feed's bytes are those behind it", fed(given).equals(text.substring(text.length() - 20)), true);
            } else if (name.equals("read")) {
                CHECK.due("read()", got, 0);
            } else {
                String told = matcher.group(3);
                String due = told.substring(told.lastIndexOf(':') + 1).trim();
                CHECK.due(matcher.group(), got, due.equals("true") ? 1 : Integer.parseInt(due));
                held++;
            }
        }
        CHECK.due("the example's three feeds are seen", text.length(), 60);
        CHECK.due("the example's answers are seen", held, 5);
    }

    private static int[] numbers(String list) {
        String[] each = list.isEmpty() ? new String[0] : list.split(", ");
        int[] numbers = new int[each.length];
        for (int i = 0; i < each.length; i++) {
            numbers[i] = Long.decode(each[i]).intValue();
        }
        return numbers;
    }

    private static String fed(int[] given) {
        StringBuilder text = new StringBuilder();
        for (int four : given) {
            for (int shift = 24; shift >= 0; shift -= 8) {
                text.append((char) (four >>> shift & 255));
            }
        }
        return text.toString();
    }

    private static long answer(SeaHair hair, String name, int[] given) throws ReflectiveOperationException {
        Class<?>[] types = new Class<?>[given.length];
        Object[] boxed = new Object[given.length];
        for (int i = 0; i < given.length; i++) {
            types[i] = int.class;
            boxed[i] = given[i];
        }
        Object got = SeaHair.class.getMethod(name, types).invoke(hair, boxed);
        return got instanceof Boolean is ? (is ? 1 : 0) : (Integer) got;
    }

    private static void calls(String readme) {
        for (Method method : SeaHair.class.getDeclaredMethods()) {
            if (Modifier.isPublic(method.getModifiers())) {
                CHECK.due(method.getName() + " is told", readme.contains("`" + method.getName() + "`"), true);
            }
        }
    }

    private static void tests(String readme) {
        for (String file : new File("src/test/java").list()) {
            if (file.endsWith("Test.java")) {
                String name = file.substring(0, file.length() - 5);
                CHECK.due(name + " is told", readme.contains("| `" + name + "` |"), true);
            }
        }
        CHECK.due(".ci/run is told", readme.contains("`.ci/run`"), true);
    }
}
