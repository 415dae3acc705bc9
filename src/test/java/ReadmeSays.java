import java.io.File;
import java.io.IOException;
import java.lang.reflect.Field;
import java.lang.reflect.Method;
import java.lang.reflect.Modifier;
import java.nio.file.Files;
import java.nio.file.Path;
import java.util.regex.Matcher;
import java.util.regex.Pattern;

/** README.md as it stands: what it says of calls, constants and tests is so, and none is left out. */
public final class ReadmeSays {
    private static final Pattern CALL = Pattern.compile("x\\.(\\w+)\\(([^)]*)\\);\\s+// (-?\\d+): .+");
    private static final Pattern CONSTANT = Pattern.compile("`([A-Z]+)` \\((-\\d+)\\)");
    private static final Pattern TEST_ROW = Pattern.compile("(?m)^\\| `([A-Z]\\w+)` \\|");

    private final String page;

    private ReadmeSays(String page) {
        this.page = page;
    }

    public static void main(String[] args) throws IOException, ReflectiveOperationException {
        ReadmeSays readme = new ReadmeSays(Files.readString(Path.of("README.md")));
        readme.example();
        readme.constants();
        readme.face();
        readme.tests();
        Due.end("README.md");
    }

    private void isSaid(String text) {
        Due.due("README.md has " + text, page.contains(text) ? 1 : 0, 1);
    }

    /** The example is one object's run of calls, each with its answer behind it. */
    private void example() throws ReflectiveOperationException {
        String made = "CurrentFarms x = new CurrentFarms();";
        isSaid("```java\n" + made);
        int from = page.indexOf(made) + made.length();
        CurrentFarms x = new CurrentFarms();
        int calls = 0;
        for (String line : page.substring(from, page.indexOf("```", from)).strip().split("\n")) {
            Matcher m = CALL.matcher(line);
            boolean reads = m.matches();
            Due.due("'" + line + "' is a call with its answer", reads ? 1 : 0, 1);
            if (!reads) continue;
            Due.due(line, called(x, m.group(1), m.group(2)), Long.parseLong(m.group(3)));
            calls++;
        }
        Due.due("the example has calls", calls > 0 ? 1 : 0, 1);
    }

    private static int called(CurrentFarms x, String name, String told) throws ReflectiveOperationException {
        String[] texts = told.isEmpty() ? new String[0] : told.split(", ");
        for (Method m : CurrentFarms.class.getMethods()) {
            if (!m.getName().equals(name) || m.getParameterCount() != texts.length) continue;
            Object[] row = new Object[texts.length];
            for (int i = 0; i < row.length; i++) {
                boolean wide = m.getParameterTypes()[i] == long.class;
                long n = Long.decode(texts[i].replaceAll("L$", ""));
                if (wide) row[i] = n;
                else row[i] = Math.toIntExact(n);
            }
            return (int) m.invoke(x, row);
        }
        throw new NoSuchMethodException(name + "(" + told + ")");
    }

    private void constants() throws ReflectiveOperationException {
        int said = 0, are = 0;
        for (Matcher m = CONSTANT.matcher(page); m.find(); said++) {
            Due.due(m.group(), CurrentFarms.class.getField(m.group(1)).getInt(null), Integer.parseInt(m.group(2)));
        }
        for (Field f : CurrentFarms.class.getFields()) if (Modifier.isStatic(f.getModifiers())) are++;
        Due.due("constants that are told", said, are);
    }

    private void face() {
        for (Method m : CurrentFarms.class.getDeclaredMethods()) {
            if (Modifier.isPublic(m.getModifiers())) isSaid("`" + m.getName() + "`");
        }
    }

    /** How they are run, a row for each test, and no row for what is none. */
    private void tests() throws IOException {
        isSaid("    .ci/run\n");
        Due.due(".ci/run can be run", new File(".ci/run").canExecute() ? 1 : 0, 1);
        File[] files = new File("src/test/java").listFiles((in, name) -> name.endsWith(".java"));
        for (File f : files) {
            String name = f.getName().replace(".java", "");
            boolean runs = Files.readString(f.toPath()).contains("public static void main");
            isSaid((runs ? "\n| `" : "`") + name + (runs ? "` |" : "`"));
        }
        for (Matcher m = TEST_ROW.matcher(page); m.find();) {
            Due.due("there is a test " + m.group(1), new File("src/test/java/" + m.group(1) + ".java").exists() ? 1 : 0, 1);
        }
    }
}
