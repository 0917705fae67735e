import java.lang.reflect.Method;
import java.nio.file.Files;
import java.nio.file.Path;
import java.util.Set;
import java.util.TreeSet;
import java.util.regex.Matcher;
import java.util.regex.Pattern;

/** The example of README.md: each call that it shows is made, and must answer the number of its remark. */
public final class ReadmeTest {
    private static final Due due = new Due();
    private static final Pattern TEXT = Pattern.compile("String text = \"([^\"]*)\";");
    private static final Pattern CALL = Pattern.compile("(?m)^x\\.(\\w+)\\(([-0-9, ]*)\\);(.*)$");
    private static final Pattern REMARK = Pattern.compile(" +// (-?[0-9]+)\\b.*");

    public static void main(String[] args) throws Exception {
        String readme = Files.readString(Path.of("README.md"));
        example(readme);
        everyCallIsNamed(readme);
        due.finish();
    }

    private static void example(String readme) throws Exception {
        QuotaLaws x = new QuotaLaws();
        Matcher text = TEXT.matcher(readme);
        due.holds("README.md has a text", text.find());
        Due.feedAll(x, text.group(1));
        int calls = 0;
        Matcher call = CALL.matcher(readme);
        while (call.find()) {
            calls++;
            Matcher remark = REMARK.matcher(call.group(3));
            due.holds(call.group() + " has its answer", remark.matches());
            due.is("README.md: " + call.group(), answer(x, call.group(1), call.group(2)), Long.parseLong(remark.group(1)));
        }
        due.holds("README.md shows calls", calls > 20);
    }

    /** Calls that take a boolean are not shown there. */
    private static long answer(QuotaLaws x, String name, String list) throws Exception {
        String[] numbers = list.isEmpty() ? new String[0] : list.split(", *");
        Class<?>[] types = new Class<?>[numbers.length];
        Object[] with = new Object[numbers.length];
        for (int i = 0; i < numbers.length; i++) {
            types[i] = int.class;
            with[i] = Integer.parseInt(numbers[i]);
        }
        return ((Number) QuotaLaws.class.getMethod(name, types).invoke(x, with)).longValue();
    }

    private static void everyCallIsNamed(String readme) {
        Set<String> unnamed = new TreeSet<>();
        for (Method m : QuotaLaws.class.getDeclaredMethods()) {
            boolean open = java.lang.reflect.Modifier.isPublic(m.getModifiers());
            if (open && !readme.contains("`" + m.getName() + "`")) {
                unnamed.add(m.getName());
            }
        }
        due.holds("README.md names every call, but for " + unnamed, unnamed.isEmpty());
    }
}
