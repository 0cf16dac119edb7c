import java.lang.reflect.Method;
import java.lang.reflect.Modifier;
import java.nio.file.Files;
import java.nio.file.Path;
import java.util.regex.Matcher;
import java.util.regex.Pattern;

/** README.md: its calls answer what stands behind them, and it names every call of the face. */
public final class ReadmeTest {
    static int wrong = 0;
    static int calls = 0;

    static void tell(String what) {
        wrong++;
        System.out.println(what);
    }

    public static void main(String[] args) throws Exception {
        String text = Files.readString(Path.of("README.md"));
        example(text);
        names(text);
        if (wrong != 0) {
            System.exit(1);
        }
        System.out.println("all " + calls + " calls of README.md answer as told");
    }

    /** Rows of the form: press.name(a, b);   // answer: what it means. */
    static void example(String text) throws Exception {
        SeriesPress press = new SeriesPress();
        Pattern row = Pattern.compile("^press\\.(\\w+)\\((.*)\\);\\s+// (-?\\d+): .*$", Pattern.MULTILINE);
        Matcher m = row.matcher(text);
        while (m.find()) {
            long got = call(press, m.group(1), m.group(2).split(", "));
            calls++;
            if (got != Long.parseLong(m.group(3))) {
                tell(m.group() + " answered " + got);
            }
        }
        long rows = text.lines().filter(line -> line.startsWith("press.")).count();
        if (calls == 0 || calls != rows) {
            tell("of " + rows + " rows of README.md " + calls + " tell their answer");
        }
    }

    static long call(SeriesPress press, String name, String[] given) throws Exception {
        for (Method m : SeriesPress.class.getDeclaredMethods()) {
            if (m.getName().equals(name) && m.getParameterCount() == given.length) {
                Object[] arguments = new Object[given.length];
                for (int i = 0; i < given.length; i++) {
                    long number = Long.decode(given[i].replace("L", ""));
                    arguments[i] = m.getParameterTypes()[i] == int.class ? (Object) (int) number : (Object) number;
                }
                return ((Number) m.invoke(press, arguments)).longValue();
            }
        }
        tell("there is no call " + name + " of " + given.length);
        return 0;
    }

    static void names(String text) {
        for (Method m : SeriesPress.class.getDeclaredMethods()) {
            if (Modifier.isPublic(m.getModifiers()) && !text.contains("`" + m.getName() + "`")) {
                tell("README.md does not name " + m.getName());
            }
        }
    }
}
