import java.io.IOException;
import java.lang.reflect.InvocationTargetException;
import java.lang.reflect.Method;
import java.lang.reflect.Modifier;
import java.nio.file.Files;
import java.nio.file.Path;
import java.util.regex.Matcher;
import java.util.regex.Pattern;

/** README.md holds: its calls are read from the page and answer what stands behind them. */
public final class Usage extends Check {
    private static final Pattern TOLD = Pattern.compile("tell\\(x, \"(.*)\"\\); // (-?\\w+)\\b.*");
    private static final Pattern CALLED = Pattern.compile("x\\.(\\w+)\\((.*?)\\); +// (-?\\w+)\\b.*");

    private static Object called(PunchCards x, String name, String arguments) throws IllegalAccessException {
        String[] written = arguments.isEmpty() ? new String[0] : arguments.split(", ");
        for (Method m : PunchCards.class.getDeclaredMethods()) {
            if (m.getName().equals(name) && m.getParameterCount() == written.length) {
                Object[] values = new Object[written.length];
                for (int i = 0; i < values.length; i++) {
                    boolean truth = m.getParameterTypes()[i] == boolean.class;
                    values[i] = truth ? (Object) Boolean.valueOf(written[i]) : (Object) Integer.valueOf(written[i]);
                }
                try {
                    return m.invoke(x, values);
                } catch (InvocationTargetException e) {
                    return e.getCause().getClass().getSimpleName();
                }
            }
        }
        return "no such call";
    }

    private static void compare(String line, Object got, String due) {
        is(line + " (answered " + got + ")", String.valueOf(got).equals(due), true);
    }

    private static int callsOf(String page) throws IllegalAccessException {
        PunchCards x = new PunchCards();
        int calls = 0;
        for (String line : page.split("\n")) {
            Matcher told = TOLD.matcher(line);
            Matcher called = CALLED.matcher(line);
            if (line.startsWith("PunchCards x =")) {
                x = new PunchCards();
            } else if (told.matches()) {
                compare(line, tell(x, told.group(1)), told.group(2));
                calls++;
            } else if (called.matches()) {
                compare(line, called(x, called.group(1), called.group(2)), called.group(3));
                calls++;
            }
        }
        return calls;
    }

    private static void everyCallIsNamed(String page) {
        for (Method m : PunchCards.class.getDeclaredMethods()) {
            if (Modifier.isPublic(m.getModifiers())) {
                is(m.getName() + " on the page", page.contains("`" + m.getName() + "`"), true);
            }
        }
    }

    private static void linesAreTold(String page) {
        StringBuilder text = new StringBuilder();
        Matcher rows = Pattern.compile("\\| `(.*;)` \\|").matcher(page);
        while (rows.find()) {
            String line = rows.group(1);
            // The page's lace names two cards where its table tells one.
            text.append(line.startsWith("card") ? line + line : line);
        }
        is("the table's lines '" + text + "'", tell(new PunchCards(), text.toString()), 0);
    }

    public static void main(String[] args) throws IOException, IllegalAccessException {
        about("README.md");
        String page = Files.readString(Path.of("README.md"));
        is("calls on the page", callsOf(page), 17);
        everyCallIsNamed(page);
        linesAreTold(page);
        finish("usage");
    }
}
