import java.io.IOException;
import java.lang.reflect.Constructor;
import java.lang.reflect.Field;
import java.lang.reflect.Method;
import java.lang.reflect.Modifier;
import java.nio.file.Files;
import java.nio.file.Path;
import java.util.Map;
import java.util.Set;
import java.util.TreeMap;
import java.util.TreeSet;
import java.util.regex.Matcher;
import java.util.regex.Pattern;

/** The public face with its constants, and what of LANGUAGE.md can be seen from outside. */
public final class FaceTest {
    private static final Path SOURCE = Path.of("src/main/java/NonogramSolver.java");

    private FaceTest() {
    }

    public static void main(String[] args) throws IOException, IllegalAccessException {
        constants();
        methods();
        onlyPlainTypes();
        onlyPlainWords();
        Check.end();
    }

    private static void constants() throws IllegalAccessException {
        Map<String, Integer> due = new TreeMap<>();
        due.put("ROW", 0);
        due.put("COL", 1);
        due.put("UNKNOWN", 0);
        due.put("EMPTY", 1);
        due.put("FILLED", 2);
        due.put("INVALID", -1);
        due.put("MAX_SIZE", 8);
        due.put("MAX_NUMBERS", 4);
        due.put("NO_SOLUTION", 0);
        due.put("UNIQUE", 1);
        due.put("MULTIPLE", 2);
        due.put("NOT_RUN", 3);
        due.put("CONTRADICTION", 4);
        due.put("COMPLETE", 5);
        due.put("STALLED", 6);
        Map<String, Integer> got = new TreeMap<>();
        for (Field field : NonogramSolver.class.getDeclaredFields()) {
            if (!Modifier.isPrivate(field.getModifiers())) {
                Check.due(field.getName(), Modifier.toString(field.getModifiers()) + " " + field.getType(),
                    "public static final int");
                got.put(field.getName(), field.getInt(null));
            }
        }
        Check.due("constants", got.toString(), due.toString());
    }

    private static void methods() {
        Set<String> due = new TreeSet<>(Set.of(
            "NonogramSolver(int,int)",
            "int rows()", "int cols()",
            "boolean addNumber(int,int,int)", "boolean clearLine(int,int)",
            "int clueCount(int,int)", "int clueNumber(int,int,int)",
            "boolean setGiven(int,int,int)", "int given(int,int)",
            "int propagate()", "int propagateStatus()", "int known(int,int)", "int knownCount()",
            "int solve()", "int verdict()", "int solutionCell(int,int,int)"));
        Set<String> got = new TreeSet<>();
        for (Method method : NonogramSolver.class.getDeclaredMethods()) {
            if (!Modifier.isPrivate(method.getModifiers())) {
                Check.due(method.getName(), Modifier.toString(method.getModifiers()), "public");
                got.add(method.toString().replace("public ", "").replace("NonogramSolver.", ""));
            }
        }
        for (Constructor<?> constructor : NonogramSolver.class.getDeclaredConstructors()) {
            got.add(constructor.toString().replace("public ", ""));
        }
        Check.due("methods", got.toString(), due.toString());
        Check.due("the class", Modifier.toString(NonogramSolver.class.getModifiers()), "public final");
        Check.due("nested classes", NonogramSolver.class.getDeclaredClasses().length, 0);
    }

    private static void onlyPlainTypes() {
        for (Field field : NonogramSolver.class.getDeclaredFields()) {
            boolean array = field.getType().isArray();
            Class<?> plain = array ? field.getType().getComponentType() : field.getType();
            Check.due(field.getName() + " is of a plain type", plain.isPrimitive(), true);
            Check.due(field.getName() + " is a static array", array && Modifier.isStatic(field.getModifiers()), false);
        }
        for (Method method : NonogramSolver.class.getDeclaredMethods()) {
            Check.due(method.getName() + " has few parameters", method.getParameterCount() <= 7, true);
            Check.due(method.getName() + " answers an array", method.getReturnType().isArray(), false);
        }
    }

    private static void onlyPlainWords() throws IOException {
        String code = Files.readString(SOURCE).replaceAll("(?s)/\\*.*?\\*/", "").replaceAll("//.*", "");
        Matcher outside = Pattern.compile("\\b(package|import|float|double|String|Math|Integer|System|Arrays|Object|null"
            + "|throw|throws|try|catch|finally|synchronized|assert|instanceof|interface|enum|record|this)\\b|->|::|\"").matcher(code);
        while (outside.find()) {
            Check.due("a word outside the language", outside.group(), "");
        }
    }
}
