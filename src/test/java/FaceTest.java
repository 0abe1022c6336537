import java.lang.reflect.Constructor;
import java.lang.reflect.Field;
import java.lang.reflect.Method;
import java.lang.reflect.Modifier;
import java.nio.charset.StandardCharsets;
import java.nio.file.Files;
import java.nio.file.Path;
import java.util.ArrayList;
import java.util.Arrays;
import java.util.Collections;
import java.util.HashSet;
import java.util.List;
import java.util.Set;

/** The public face as the document has it, and what the text of the class alone tells of LANGUAGE.md. */
public final class FaceTest {
    private static final String INDEX = "IndexOutOfBoundsException";
    private static final String ARGUMENT = "IllegalArgumentException";
    private static final String STATE = "IllegalStateException";
    private static final String[] FACE = {
        "int project(int,boolean) " + ARGUMENT + " " + STATE,
        "int setBudget(int,int,boolean) " + INDEX + " " + ARGUMENT,
        "int setStep(int,int,int) " + INDEX + " " + ARGUMENT,
        "int setTerms(int,int,int) " + INDEX + " " + ARGUMENT,
        "int rule(boolean,int) " + ARGUMENT + " " + STATE,
        "int aim(int,int,int,int) " + INDEX + " " + ARGUMENT,
        "int time(int,int,int,int,int,int) " + INDEX + " " + ARGUMENT,
        "int dropRule(int) " + INDEX,
        "int entry(int,int,int,int,int,int) " + INDEX + " " + ARGUMENT + " " + STATE,
        "int change(int,int,int) " + INDEX + " " + ARGUMENT + " " + STATE,
        "int take(int) " + INDEX + " " + STATE,
        "int many(int) " + ARGUMENT,
        "int ofEntry(int,int) " + INDEX + " " + ARGUMENT,
        "int rate(int,int) " + INDEX + " " + ARGUMENT,
        "int why(int,int) " + INDEX + " " + ARGUMENT,
        "int ofProject(int,int) " + INDEX + " " + ARGUMENT,
        "int worked(int,int,int) " + ARGUMENT,
        "int bill(int,int) " + INDEX + " " + ARGUMENT + " " + STATE,
        "int takeBack(int) " + INDEX + " " + STATE,
        "int ofBill(int,int) " + INDEX + " " + ARGUMENT,
        "int line(int,int,int) " + INDEX + " " + ARGUMENT,
        "int wouldBill(int,int) " + INDEX + " " + ARGUMENT,
        "int without(int) " + INDEX,
        "int amountsWith(int,int) " + INDEX + " " + ARGUMENT,
        "int overOn(int) " + INDEX,
        "double meanRate()",
        "long digest()"};
    /** What LANGUAGE.md leaves out wherever it stands; what it allows here and there is for a reader to see. */
    private static final String[] LEFT_OUT = {"::", "package ", "finally", "synchronized", "assert ", "Exact(",
        "hashCode", "NaN", "Thread", "Random", "nanoTime", "currentTimeMillis"};
    /** Rule 11 tells both numbers with 'some' ahead of them. */
    private static final int MOST_CLASSES = 14;
    private static final int MOST_FIELDS = 22;

    private static final Check CHECK = new Check("FaceTest");

    public static void main(String[] args) throws Exception {
        face();
        insides(Hourbook.class);
        for (Class<?> inside : Hourbook.class.getDeclaredClasses()) {
            int modifiers = inside.getModifiers();
            CHECK.is(inside + " is open", Modifier.isPublic(modifiers) || Modifier.isProtected(modifiers), false);
            insides(inside);
        }
        CHECK.is("not too many classes", Hourbook.class.getDeclaredClasses().length < MOST_CLASSES, true);
        Path main = Path.of(args.length > 0 ? args[0] : ".", "src", "main", "java", "Hourbook.java");
        text(Files.readAllLines(main, StandardCharsets.ISO_8859_1));
        CHECK.end();
    }

    private static void face() {
        CHECK.is("public and final", Modifier.toString(Hourbook.class.getModifiers()), "public final");
        CHECK.is("its own package", Hourbook.class.getPackageName(), "");
        Constructor<?>[] constructors = Hourbook.class.getDeclaredConstructors();
        CHECK.is("constructors", constructors.length, 1);
        CHECK.is("the constructor", constructors[0].toString(), "public Hourbook()");
        List<String> open = new ArrayList<>();
        for (Method m : Hourbook.class.getDeclaredMethods()) {
            if (!Modifier.isPrivate(m.getModifiers()) && !m.isSynthetic()) {
                open.add(told(m));
            }
        }
        List<String> due = new ArrayList<>(Arrays.asList(FACE));
        Collections.sort(open);
        Collections.sort(due);
        CHECK.is("the face", String.join("\n", open), String.join("\n", due));
        for (Field f : Hourbook.class.getDeclaredFields()) {
            CHECK.is(f + " is private", Modifier.isPrivate(f.getModifiers()) || f.isSynthetic(), true);
        }
    }

    private static String told(Method m) {
        StringBuilder told = new StringBuilder(m.getReturnType().getSimpleName()).append(' ').append(m.getName());
        List<String> parameters = new ArrayList<>();
        for (Class<?> c : m.getParameterTypes()) {
            parameters.add(c.getSimpleName());
        }
        told.append('(').append(String.join(",", parameters)).append(')');
        for (Class<?> c : m.getExceptionTypes()) {
            told.append(' ').append(c.getSimpleName());
        }
        return told.toString();
    }

    private static void insides(Class<?> c) {
        Set<String> open = new HashSet<>();
        for (String line : FACE) {
            open.add(line.substring(line.indexOf(' ') + 1, line.indexOf('(')));
        }
        for (Method m : c.getDeclaredMethods()) {
            CHECK.is(m + " has at most seven parameters", m.getParameterCount() <= 7, true);
            boolean isPrivate = Modifier.isPrivate(m.getModifiers());
            CHECK.is(m + " bears a name of the face", isPrivate && open.contains(m.getName()), false);
        }
        int state = 0;
        for (Field f : c.getDeclaredFields()) {
            boolean isStatic = Modifier.isStatic(f.getModifiers());
            state += isStatic ? 0 : 1;
            CHECK.is(f + " is final if it is static", !isStatic || Modifier.isFinal(f.getModifiers()), true);
        }
        CHECK.is(c + " has not too many fields", state <= MOST_FIELDS, true);
    }

    private static void text(List<String> lines) {
        for (int k = 0; k < lines.size(); k++) {
            String code = lines.get(k).strip();
            if (code.startsWith("/*") || code.startsWith("//") || code.startsWith("*")) {
                continue;
            }
            code = code.replaceAll("\"[^\"]*\"", "\"\"").replaceAll("//.*", "");
            for (String word : LEFT_OUT) {
                CHECK.is("line " + (k + 1) + " has " + word, code.contains(word), false);
            }
            boolean isImport = code.startsWith("import ");
            CHECK.is("line " + (k + 1) + " imports of java.util alone", !isImport || code.startsWith("import java.util."), true);
        }
    }
}
