import java.lang.reflect.Method;
import java.nio.file.Files;
import java.nio.file.Path;
import java.util.Arrays;
import java.util.List;
import java.util.Set;
import java.util.TreeSet;
import java.util.regex.Matcher;
import java.util.regex.Pattern;

/** README.md tells how to use the class: each call that it shows answers the number behind it. */
public final class ReadmeTest {
    private static final Pattern CALL = Pattern.compile("x\\.(\\w+)\\(([^)]*)\\); +// (-?\\d+)(:.*)?");
    private static int wrong = 0;

    public static void main(String[] args) throws Exception {
        List<String> lines = Files.readAllLines(Path.of("README.md"));
        FilmPrinter x = null;
        int calls = 0;
        boolean java = false;
        for (String line : lines) {
            if (line.startsWith("```")) {
                java = line.equals("```java");
            } else if (java && line.equals("FilmPrinter x = new FilmPrinter();")) {
                x = new FilmPrinter();
            } else if (java && !line.isBlank()) {
                call(x, line);
                calls++;
            }
        }
        tellsAllCalls(lines);
        say(calls > 40, "it shows " + calls + " calls alone");
        System.out.println(wrong == 0 ? calls + " calls of README.md are as told" : wrong + " lines are not so");
        if (wrong != 0) {
            System.exit(1);
        }
    }

    private static void say(boolean fine, String what) {
        if (!fine) {
            wrong++;
            System.out.println("README.md: " + what);
        }
    }

    private static void call(FilmPrinter x, String line) throws Exception {
        Matcher told = CALL.matcher(line);
        if (x == null || !told.matches()) {
            say(false, "not a call with its answer: " + line);
            return;
        }
        Object[] numbers = told.group(2).isEmpty() ? new Object[0]
                : Arrays.stream(told.group(2).split(", *")).map(n -> (Object) Long.decode(n).intValue()).toArray();
        Class<?>[] types = new Class<?>[numbers.length];
        Arrays.fill(types, int.class);
        Object got = FilmPrinter.class.getMethod(told.group(1), types).invoke(x, numbers);
        say(got.equals(Integer.valueOf(told.group(3))), line + " but it answered " + got);
    }

    /** The table of calls has each of the face's once, and no other. */
    private static void tellsAllCalls(List<String> lines) {
        Set<String> due = new TreeSet<>();
        for (Method m : FilmPrinter.class.getMethods()) {
            if (m.getDeclaringClass() == FilmPrinter.class) {
                due.add(m.getName());
            }
        }
        int from = lines.indexOf("| calls | what they are for |");
        for (int at = from + 2; from >= 0 && at < lines.size() && lines.get(at).startsWith("|"); at++) {
            Matcher name = Pattern.compile("`(\\w+)`").matcher(lines.get(at));
            while (name.find()) {
                say(due.remove(name.group(1)), "the table has " + name.group(1));
            }
        }
        say(due.isEmpty(), "the table has not " + due);
    }
}
