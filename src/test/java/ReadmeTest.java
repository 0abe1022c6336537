import java.io.File;
import java.io.IOException;
import java.lang.reflect.InvocationTargetException;
import java.lang.reflect.Method;
import java.nio.charset.StandardCharsets;
import java.nio.file.Files;
import java.nio.file.Path;
import java.util.ArrayList;
import java.util.List;
import java.util.Set;
import java.util.TreeSet;
import java.util.regex.Matcher;
import java.util.regex.Pattern;

/** What README.md shows holds: its run of calls answers as it says there, and its tests are those that are run. */
public final class ReadmeTest {
    private static final Check CHECK = new Check("ReadmeTest");
    private static final String BEGIN = "Hourbook book = new Hourbook();";
    private static final int MOST_CALLS = 512;
    /** A call, and behind // its answer up to the first colon, where there is one. */
    private static final Pattern SHOWN = Pattern.compile("book\\.(\\w+)\\((.*?)\\);\\s*// ([^:]+)(:.*)?");
    private static final Pattern TEST = Pattern.compile("\\| `(\\w+Test)` \\| .+ \\|");

    private ReadmeTest() {
    }

    public static void main(String[] args) throws IOException {
        Path root = Path.of(args.length > 0 ? args[0] : ".");
        List<String> lines = Files.readAllLines(root.resolve("README.md"), StandardCharsets.UTF_8);
        run(codeOf(lines));
        tests(lines, root.resolve("src/test/java").toFile());
        CHECK.is("README.md shows how the tests are run", lines.contains(".ci/run"), true);
        CHECK.is("what it shows for that is there", Files.isExecutable(root.resolve(".ci/run")), true);
        CHECK.end();
    }

    private static List<String> codeOf(List<String> lines) {
        List<String> code = new ArrayList<>();
        boolean isCode = false;
        for (String line : lines) {
            if (line.startsWith("```")) {
                isCode = line.equals("```java");
            } else if (isCode && !line.isBlank() && !line.startsWith("//")) {
                code.add(line);
            }
        }
        return code;
    }

    private static void run(List<String> code) {
        CHECK.is("the run begins", code.isEmpty() ? "with nothing" : code.get(0), BEGIN);
        CHECK.is("the run has no more calls than are promised", code.size() - 1 <= MOST_CALLS, true);
        Hourbook book = new Hourbook();
        Set<String> shown = new TreeSet<>();
        for (int k = 1; k < code.size(); k++) {
            Matcher m = SHOWN.matcher(code.get(k));
            CHECK.is("'" + code.get(k) + "' is a call with its answer", m.matches(), true);
            if (m.matches()) {
                CHECK.is(code.get(k), answer(book, m.group(1), m.group(2)), m.group(3).strip());
                shown.add(m.group(1));
            }
        }
        Set<String> face = new TreeSet<>();
        for (Method method : Hourbook.class.getMethods()) {
            if (method.getDeclaringClass() == Hourbook.class) {
                face.add(method.getName());
            }
        }
        CHECK.is("the calls of the face that the run shows", shown, face);
    }

    private static String answer(Hourbook book, String name, String told) {
        for (Method method : Hourbook.class.getMethods()) {
            if (method.getDeclaringClass() == Hourbook.class && method.getName().equals(name)) {
                try {
                    return String.valueOf(method.invoke(book, values(told, method.getParameterTypes())));
                } catch (InvocationTargetException e) {
                    return "throws " + e.getCause().getClass().getSimpleName();
                } catch (IllegalAccessException | IllegalArgumentException e) {
                    return "no such call";
                }
            }
        }
        return "no such call";
    }

    /** As many as are told, so that too few or too many of them are refused when the call is made. */
    private static Object[] values(String told, Class<?>[] types) {
        String[] parts = told.isBlank() ? new String[0] : told.split(", ");
        Object[] values = new Object[parts.length];
        for (int k = 0; k < parts.length; k++) {
            boolean isBoolean = k < types.length && types[k] == boolean.class
                    && (parts[k].equals("true") || parts[k].equals("false"));
            values[k] = isBoolean ? (Object) parts[k].equals("true") : (Object) Integer.valueOf(parts[k]);
        }
        return values;
    }

    private static void tests(List<String> lines, File folder) {
        Set<String> told = new TreeSet<>();
        for (String line : lines) {
            Matcher m = TEST.matcher(line);
            if (m.matches()) {
                told.add(m.group(1));
            }
        }
        Set<String> there = new TreeSet<>();
        String[] files = folder.list();
        for (String file : files == null ? new String[0] : files) {
            if (file.endsWith("Test.java")) {
                there.add(file.substring(0, file.length() - ".java".length()));
            }
        }
        CHECK.is("the tests that README.md names", told, there);
    }
}
