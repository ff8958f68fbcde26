import java.lang.reflect.Method;
import java.nio.file.Files;
import java.nio.file.Path;
import java.util.regex.Matcher;
import java.util.regex.Pattern;

/** Makes the calls that README.md shows, on one object, and looks whether they answer what stands behind them. */
public final class ReadmeTest {
    private static final Pattern TELL = Pattern.compile("tell\\(x, \"([^\"]*)\"\\);");
    private static final Pattern CALL = Pattern.compile("x\\.(\\w+)\\(([-0-9, ]*)\\); *// (-?\\d+) .*");

    private static int answer(GiantStair x, String name, String numbers) throws Exception {
        String[] parts = numbers.isEmpty() ? new String[0] : numbers.split(", *");
        Class<?>[] types = new Class<?>[parts.length];
        Object[] values = new Object[parts.length];
        for (int i = 0; i < parts.length; i++) {
            types[i] = int.class;
            values[i] = Integer.valueOf(parts[i]);
        }
        Method method = GiantStair.class.getMethod(name, types);
        return (Integer) method.invoke(x, values);
    }

    public static void main(String[] args) throws Exception {
        GiantStair x = new GiantStair();
        int calls = 0, wrong = 0;
        for (String line : Files.readAllLines(Path.of("README.md"))) {
            Matcher tell = TELL.matcher(line), call = CALL.matcher(line);
            if (tell.matches()) {
                for (char c : tell.group(1).toCharArray()) x.write(c, 1);
            } else if (call.matches()) {
                calls++;
                int got = answer(x, call.group(1), call.group(2));
                if (got != Integer.parseInt(call.group(3))) {
                    wrong++;
                    System.out.println("README.md: " + line + " - answered " + got);
                }
            } else if (line.startsWith("x.")) {
                wrong++;
                System.out.println("README.md: not to be read: " + line);
            }
        }
        System.out.println(calls + " calls of README.md, " + wrong + " wrong");
        if (calls == 0 || wrong > 0) System.exit(1);
    }
}
