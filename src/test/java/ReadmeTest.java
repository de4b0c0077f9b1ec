import java.io.IOException;
import java.lang.reflect.Method;
import java.nio.file.Files;
import java.nio.file.Path;
import java.util.regex.Matcher;
import java.util.regex.Pattern;

/** The example of README.md: each call with the answer that stands behind it. */
public final class ReadmeTest {
    private static final Pattern EXAMPLE = Pattern.compile("```java\n(.*?)```", Pattern.DOTALL);
    private static final Pattern GATE = Pattern.compile("String gate = \"([^\"]*)\";");
    private static final Pattern CALL = Pattern.compile("(?m)^x\\.(\\w+)\\(([-0-9, ]*)\\);\\s*// (-?\\d+)");

    public static void main(String[] args) throws IOException, ReflectiveOperationException {
        Matcher example = EXAMPLE.matcher(Files.readString(Path.of("README.md")));
        if (!example.find()) {
            System.out.println("README.md has no example");
            System.exit(1);
        }
        GateNames x = new GateNames();
        write(x, example.group(1));
        int calls = 0;
        int wrong = 0;
        Matcher call = CALL.matcher(example.group(1));
        while (call.find()) {
            long got = answer(x, call.group(1), call.group(2));
            calls++;
            if (got != Long.parseLong(call.group(3))) {
                wrong++;
                System.out.println(call.group() + ", but it answers " + got);
            }
        }
        System.out.println(calls + " calls of README.md, " + wrong + " answers wrong");
        System.exit(wrong == 0 && calls > 0 ? 0 : 1);
    }

    private static void write(GateNames x, String example) {
        Matcher gate = GATE.matcher(example);
        String signs = gate.find() ? gate.group(1) : "";
        x.text(0, signs.length());
        for (int i = 0; i < signs.length(); i++) {
            x.put(0, i, signs.charAt(i));
        }
    }

    private static long answer(GateNames x, String name, String numbers) throws ReflectiveOperationException {
        String[] parts = numbers.isEmpty() ? new String[0] : numbers.split(", *");
        Object[] values = new Object[parts.length];
        Class<?>[] types = new Class<?>[parts.length];
        for (int k = 0; k < parts.length; k++) {
            values[k] = Integer.parseInt(parts[k]);
            types[k] = int.class;
        }
        Method method = GateNames.class.getMethod(name, types);
        return ((Number) method.invoke(x, values)).longValue();
    }
}
