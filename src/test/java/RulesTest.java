import java.io.IOException;
import java.lang.reflect.Field;
import java.lang.reflect.Method;
import java.lang.reflect.Modifier;
import java.nio.file.Files;
import java.nio.file.Path;
import java.util.Arrays;
import java.util.TreeSet;
import java.util.regex.Matcher;
import java.util.regex.Pattern;

/** Those rules of LANGUAGE.md that a program can look at: names, what is static, and words that may not stand. */
public final class RulesTest {
    public static void main(String[] args) throws IOException {
        Bench.at("rules");
        names();
        fields();
        nested();
        source();
        Bench.end();
    }

    private static void names() {
        TreeSet<String> names = new TreeSet<>();
        for (Method m : QueryTables.class.getMethods()) {
            names.add(m.getName());
        }
        for (Method m : QueryTables.class.getDeclaredMethods()) {
            boolean hidden = !Modifier.isPublic(m.getModifiers());
            Bench.due(m + " bears a public name", hidden && names.contains(m.getName()), false);
        }
        for (Class<?> c : QueryTables.class.getDeclaredClasses()) {
            for (Method m : c.getDeclaredMethods()) {
                Bench.due(m + " bears a public name", names.contains(m.getName()), false);
            }
        }
    }

    private static void fields() {
        Arrays.stream(QueryTables.class.getDeclaredFields()).forEach(RulesTest::stays);
    }

    private static void stays(Field f) {
        boolean isStatic = Modifier.isStatic(f.getModifiers());
        Bench.due(f + " is final if static", !isStatic || Modifier.isFinal(f.getModifiers()), true);
    }

    private static void nested() {
        Class<?>[] classes = QueryTables.class.getDeclaredClasses();
        Bench.due("not too many classes", classes.length <= 11, true);
        for (Class<?> c : classes) {
            Bench.due(c + " is static", Modifier.isStatic(c.getModifiers()), true);
            Arrays.stream(c.getDeclaredFields()).forEach(RulesTest::stays);
            long own = Arrays.stream(c.getDeclaredFields()).filter(f -> !Modifier.isStatic(f.getModifiers())).count();
            Bench.due(c + " has not too many fields", own <= 20, true);
            for (Method m : c.getDeclaredMethods()) {
                Bench.due(m + " has at most seven parameters", m.getParameterCount() <= 7, true);
            }
        }
    }

    private static void source() throws IOException {
        String text = Files.readString(Path.of("src/main/java/QueryTables.java"));
        String bare = text.replaceAll("(?s)/\\*.*?\\*/", "").replaceAll("//[^\n]*", "").replaceAll("\"[^\"\n]*\"", "\"\"");
        String[] words = {"throw", "throws", "try", "catch", "synchronized", "assert", "import", "package", "protected",
            "Object", "HashMap", "Random", "System.currentTimeMillis", "System.nanoTime", "Exception", "native", "volatile"};
        for (String word : words) {
            Bench.due("the word " + word, Pattern.compile("\\b" + word + "\\b").matcher(bare).find(), false);
        }
        Bench.due("lambdas", bare.contains("->"), false);
        Bench.due("method references", bare.contains("::"), false);
        Bench.due("all characters are plain", text.chars().allMatch(c -> c == '\n' || c >= 32 && c < 127), true);
        methodLengths(bare);
    }

    private static void methodLengths(String bare) {
        String[] lines = bare.split("\n");
        Pattern form = Pattern.compile("^(    |        )[\\w].*\\) \\{$");
        int begin = -1;
        String indent = "";
        for (int i = 0; i < lines.length; i++) {
            Matcher head = form.matcher(lines[i]);
            if (begin < 0 && head.find()) {
                begin = i;
                indent = head.group(1);
            } else if (begin >= 0 && lines[i].equals(indent + "}")) {
                Bench.due("length of " + lines[begin].trim(), i - begin < 60, true);
                begin = -1;
            }
        }
    }
}
