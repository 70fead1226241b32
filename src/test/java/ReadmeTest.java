import java.io.IOException;
import java.lang.reflect.Method;
import java.nio.file.Files;
import java.nio.file.Path;
import java.util.List;
import java.util.regex.Matcher;
import java.util.regex.Pattern;

/** The calls of the example in README.md answer what stands behind them. */
final class ReadmeTest {
    private static final Pattern CALL = Pattern.compile("wrapper\\.(\\w+)\\(([-\\d, ]*)\\); *// (-?\\d+|[A-Z_]+): .*");
    private static final Pattern TYPED = Pattern.compile("for \\(char c : \"(.*)\"\\.toCharArray\\(\\)\\) \\{");
    /** What has no answer, or belongs to the loop that types. */
    private static final List<String> NO_CALLS =
        List.of("", "PalletWrapper wrapper = new PalletWrapper();", "wrapper.type(c);", "}");

    private ReadmeTest() {
    }

    static void run() {
        Checks.promise(1);
        int made = 0;
        try {
            made = make(Files.readString(Path.of("README.md")));
        } catch (IOException | ReflectiveOperationException unread) {
            Checks.due("the example of README.md", unread.toString(), "");
        }
        Checks.due("README.md has an example with calls", made > 0 ? 1 : 0, 1);
    }

    private static int make(String readme) throws ReflectiveOperationException {
        String behind = readme.substring(readme.indexOf("```java") + "```java".length());
        PalletWrapper wrapper = new PalletWrapper();
        int made = 0;
        for (String line : behind.substring(0, Math.max(0, behind.indexOf("```"))).split("\n")) {
            String told = line.trim();
            Matcher call = CALL.matcher(told);
            Matcher typed = TYPED.matcher(told);
            if (call.matches()) {
                Checks.due("README.md's " + call.group(1) + "(" + call.group(2) + ")",
                    answer(wrapper, call.group(1), call.group(2)), number(call.group(3)));
                made++;
            } else if (typed.matches()) {
                Wrappers.type(wrapper, typed.group(1));
            } else {
                Checks.due("the line '" + told + "' of README.md", NO_CALLS.contains(told) ? 1 : 0, 1);
            }
        }
        return made;
    }

    private static long answer(PalletWrapper wrapper, String name, String told) throws ReflectiveOperationException {
        String[] values = told.isEmpty() ? new String[0] : told.split(", ");
        Object[] arguments = new Object[values.length];
        Class<?>[] types = new Class<?>[values.length];
        for (int i = 0; i < values.length; i++) {
            arguments[i] = Integer.parseInt(values[i]);
            types[i] = int.class;
        }
        Method method = PalletWrapper.class.getMethod(name, types);
        return ((Number) method.invoke(wrapper, arguments)).longValue();
    }

    private static long number(String told) throws ReflectiveOperationException {
        boolean constant = Character.isLetter(told.charAt(0));
        return constant ? PalletWrapper.class.getField(told).getInt(null) : Long.parseLong(told);
    }
}
