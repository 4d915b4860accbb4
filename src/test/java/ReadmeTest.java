import java.lang.reflect.InvocationTargetException;
import java.lang.reflect.Method;
import java.lang.reflect.Modifier;
import java.nio.file.Files;
import java.nio.file.Path;
import java.util.Set;
import java.util.TreeSet;
import java.util.regex.Matcher;
import java.util.regex.Pattern;
import java.util.stream.Collectors;
import java.util.stream.Stream;

/** README.md: its examples, run one behind the other on one object, and its tables of calls. */
public final class ReadmeTest {
    private static final Pattern EXAMPLE = Pattern.compile("signs\\.(\\w+)\\((.*)\\); +// (.*)");
    private static final Pattern ROW_IS = Pattern.compile("row (\\d) is \"(.*)\"");
    private static final int LET_CALLS = 512;
    private static int examples = 0;
    private static int wrong = 0;

    public static void main(String[] args) throws Exception {
        String page = Files.readString(Path.of("README.md"));
        String document = Files.readString(Path.of(System.getProperty("shared", "../shared"), "DOC.md"));
        examples(page);
        answersTable(page, document);
        indexTable(page, document);
        exceptionsTable(page, "IllegalArgumentException");
        exceptionsTable(page, "IllegalStateException");
        System.out.println(wrong == 0 ? "readme: all " + examples + " examples and the tables are as due"
                : "readme: " + wrong + " things are not as due");
        if (wrong != 0) {
            System.exit(1);
        }
    }

    private static void is(String what, Object got, Object due) {
        if (!due.equals(got)) {
            wrong++;
            System.out.println("readme: " + what + ": answered " + got + ", the page says " + due);
        }
    }

    // ---- the examples

    private static void examples(String page) throws Exception {
        Signproduct signs = new Signproduct();
        int calls = 0;
        for (String line : page.split("\n")) {
            Matcher example = EXAMPLE.matcher(line);
            if (example.matches()) {
                String[] told = example.group(3).split(": ", 2);
                is(line, answer(signs, example.group(1), example.group(2)), told[0]);
                calls += 1 + (told.length == 2 ? rowIs(signs, line, told[1]) : 0);
                examples++;
            } else {
                is(line, line.startsWith("signs."), false);
            }
        }
        is("some examples", examples > 20 && calls <= LET_CALLS, true);
    }

    /** How many calls that took. */
    private static int rowIs(Signproduct signs, String line, String told) {
        Matcher row = ROW_IS.matcher(told);
        if (row.matches()) {
            is(line, signs.text(Integer.parseInt(row.group(1))), row.group(2));
        } else {
            is(line, told, "a row");
        }
        return 1;
    }

    private static String answer(Signproduct signs, String name, String arguments) throws Exception {
        Object[] values = Stream.of(arguments.split(", ")).map(ReadmeTest::number).toArray();
        try {
            Object got = method(name).invoke(signs, values);
            return got instanceof String ? "\"" + got + "\"" : got.toString();
        } catch (InvocationTargetException e) {
            return "throws " + e.getCause().getClass().getSimpleName();
        }
    }

    private static Object number(String argument) {
        return argument.startsWith("'") ? argument.charAt(1) : Integer.parseInt(argument);
    }

    private static Method method(String name) {
        return calls().filter(m -> m.getName().equals(name)).findFirst().orElseThrow();
    }

    private static Stream<Method> calls() {
        return Stream.of(Signproduct.class.getDeclaredMethods()).filter(m -> Modifier.isPublic(m.getModifiers()));
    }

    // ---- the tables

    /** The calls in the last column of the rows that begin so. */
    private static Set<String> named(String page, String begin) {
        Set<String> names = new TreeSet<>();
        for (String line : page.split("\n")) {
            if (line.startsWith("| " + begin)) {
                String[] columns = line.split("\\|");
                Matcher name = Pattern.compile("`(\\w+)`").matcher(columns[columns.length - 1]);
                while (name.find()) {
                    names.add(name.group(1));
                }
            }
        }
        return names;
    }

    private static void answersTable(String page, String document) {
        is("calls that are REFUSED", named(page, "REFUSED, -9"), telling(document, "REFUSED"));
        is("calls with NONE", named(page, "NONE, -1"), telling(document, "NONE"));
    }

    /** The calls whose promise names that in the sentence of what they return. */
    private static Set<String> telling(String document, String word) {
        Set<String> names = new TreeSet<>();
        for (String promise : document.split("\n## Promise \\d+: ")) {
            if (Pattern.compile("(?m)^Returns .*\\b" + word + "\\b").matcher(promise).find()) {
                names.add(promise.substring(0, promise.indexOf('\n')));
            }
        }
        return names;
    }

    private static Set<String> throwing(String exception) {
        return calls()
                .filter(m -> Stream.of(m.getExceptionTypes()).anyMatch(e -> e.getSimpleName().equals(exception)))
                .map(Method::getName).collect(Collectors.toCollection(TreeSet::new));
    }

    private static void exceptionsTable(String page, String exception) {
        is("calls that throw " + exception, named(page, "`" + exception), throwing(exception));
    }

    /** "each call that names a row", and some by name. */
    private static void indexTable(String page, String document) {
        Set<String> ofRows = new TreeSet<>();
        Matcher call = Pattern.compile("(?m)^    public \\w+ (\\w+)\\(int row\\b").matcher(document);
        while (call.find()) {
            ofRows.add(call.group(1));
        }
        String exception = "IndexOutOfBoundsException";
        is("calls that name a row", throwing(exception), ofRows);
        is("calls with a place or piece", ofRows.containsAll(named(page, "`" + exception)), true);
    }
}
