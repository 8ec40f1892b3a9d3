import java.io.ByteArrayOutputStream;
import java.io.PrintStream;
import java.lang.reflect.InvocationTargetException;
import java.lang.reflect.Method;
import java.lang.reflect.Modifier;
import java.net.URL;
import java.net.URLClassLoader;
import java.nio.charset.StandardCharsets;
import java.nio.file.Files;
import java.nio.file.Path;
import java.util.NoSuchElementException;
import java.util.Set;
import java.util.TreeSet;
import java.util.regex.Matcher;
import java.util.regex.Pattern;
import javax.tools.ToolProvider;

/** README.md says what is so: its program, the texts of its table, and how each call is refused. */
public final class ReadmeTest {
    // Five bytes a call: the 49th is the first that the tape does not take.
    private static final int CALLS_TO_A_FULL_TAPE = 49;
    private static int wrong;

    public static void main(String[] args) throws Exception {
        String readme = Files.readString(Path.of("README.md"), StandardCharsets.UTF_8);
        program(readme);
        texts(readme);
        refusals(readme);
        System.out.println(wrong == 0 ? "README.md says what is so" : wrong + " faults of README.md");
        if (wrong != 0) {
            System.exit(1);
        }
    }

    private static void must(boolean so, String what) {
        if (!so) {
            wrong++;
            System.out.println(what);
        }
    }

    private static String block(String readme, String kind) {
        Matcher m = Pattern.compile("(?s)```" + kind + "\n(.*?)```").matcher(readme);
        must(m.find(), "no block of " + kind);
        return m.group(1);
    }

    private static void program(String readme) throws Exception {
        Path folder = Files.createTempDirectory("readme");
        Path file = folder.resolve("Evening.java");
        Files.writeString(file, block(readme, "java"));
        try {
            must(compiles(file, folder), "the program does not compile");
            if (Files.exists(folder.resolve("Evening.class"))) {
                String printed = printedBy(folder);
                String due = block(readme, "text");
                must(printed.equals(due), "the program printed\n" + printed + "and README.md says\n" + due);
            }
        } finally {
            Files.deleteIfExists(folder.resolve("Evening.class"));
            Files.delete(file);
            Files.delete(folder);
        }
    }

    private static boolean compiles(Path file, Path folder) {
        String classes = System.getProperty("java.class.path");
        String[] options = {"-cp", classes, "-d", folder.toString(), file.toString()};
        return ToolProvider.getSystemJavaCompiler().run(null, null, null, options) == 0;
    }

    private static String printedBy(Path folder) throws Exception {
        PrintStream before = System.out;
        ByteArrayOutputStream printed = new ByteArrayOutputStream();
        try (URLClassLoader loader = new URLClassLoader(new URL[] {folder.toUri().toURL()})) {
            System.setOut(new PrintStream(printed, true, StandardCharsets.UTF_8));
            loader.loadClass("Evening").getMethod("main", String[].class).invoke(null, (Object) new String[0]);
        } finally {
            System.setOut(before);
        }
        return printed.toString(StandardCharsets.UTF_8).replace(System.lineSeparator(), "\n");
    }

    private static void texts(String readme) {
        Matcher row = Pattern.compile("(?m)^\\| ([012]) \\|[^|]*\\| `([^`]*)` \\|").matcher(readme);
        int many = 0;
        while (row.find()) {
            int sort = Integer.parseInt(row.group(1));
            must(sort == many, "the row of sort " + sort);
            must(Due.tape(new BottleBefore(), row.group(2)).fault(sort) == BottleBefore.NONE, "wrong: " + row.group(2));
            many++;
        }
        must(many == 3, "texts of " + many + " sorts");
    }

    private static void refusals(String readme) throws Exception {
        Set<String> left = new TreeSet<>();
        for (Method m : BottleBefore.class.getDeclaredMethods()) {
            if (Modifier.isPublic(m.getModifiers())) {
                left.add(m.getName());
            }
        }
        String[][] rows = {{"`NONE` (-1)", "-1"}, {"`HIDDEN` (-1000000)", "-1000000"}, {"`-2`", "-2"},
            {"`false`", "false"}, {"throws `NoSuchElementException`", "throws"}};
        for (String[] row : rows) {
            Matcher line = Pattern.compile("(?m)^\\| " + Pattern.quote(row[0]) + " \\|(.*)\\|$").matcher(readme);
            must(line.find(), "no row of " + row[0]);
            Matcher name = Pattern.compile("`(\\w+)`").matcher(line.group(1));
            while (name.find()) {
                must(left.remove(name.group(1)), name.group(1) + " is no call, or stands twice");
                String answer = refusedAnswer(name.group(1));
                must(answer.equals(row[1]), name.group(1) + " answers " + answer + ", not " + row[0]);
            }
        }
        must(left.isEmpty(), "not in the table: " + left);
    }

    /** The answer of the call to far-off numbers without a house, when the tape is full. */
    private static String refusedAnswer(String name) throws IllegalAccessException {
        BottleBefore x = new BottleBefore();
        String answer = "";
        for (Method m : BottleBefore.class.getDeclaredMethods()) {
            for (int i = 0; i < CALLS_TO_A_FULL_TAPE && m.getName().equals(name); i++) {
                answer = answer(x, m);
            }
        }
        return answer;
    }

    private static String answer(BottleBefore x, Method m) throws IllegalAccessException {
        Object[] numbers = new Object[m.getParameterCount()];
        for (int i = 0; i < numbers.length; i++) {
            boolean isLong = m.getParameterTypes()[i] == long.class;
            numbers[i] = isLong ? (Object) Long.MIN_VALUE : (Object) Integer.MIN_VALUE;
        }
        try {
            return String.valueOf(m.invoke(x, numbers));
        } catch (InvocationTargetException e) {
            return e.getCause() instanceof NoSuchElementException ? "throws" : e.getCause().toString();
        }
    }
}
