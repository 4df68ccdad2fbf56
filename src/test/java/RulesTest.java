import java.io.IOException;
import java.lang.reflect.Field;
import java.lang.reflect.Method;
import java.lang.reflect.Modifier;
import java.nio.file.Files;
import java.nio.file.Path;
import java.util.Arrays;
import java.util.TreeSet;
import java.util.regex.Matcher;
import java.util.regex.Pattern;

/** Those rules of LANGUAGE.md that a program can look at: the face, what is static, and words that may not stand. */
public final class RulesTest {
    private static final String FACE = "cell(int,int,int)long columns(int)int count(int,int,long)int erase()boolean "
            + "indexed(int,int)boolean length()int plan()int reads()int rows()int run()int size(int)int type(char)boolean "
            + "value(int,int)long width()int";
    private static final String CONSTANTS = "COUNT DONE KEY NAME NOTHING NULL ROOM SYNTAX";

    public static void main(String[] args) throws IOException {
        Bench.at("rules");
        face();
        fields();
        nested();
        source();
        Bench.end();
    }

    private static void same(String what, String got, String want) {
        Bench.due(what + " is " + got, got.equals(want), true);
    }

    private static void face() {
        TreeSet<String> methods = new TreeSet<>();
        TreeSet<String> names = new TreeSet<>();
        for (Method m : QueryTables.class.getDeclaredMethods()) {
            if (!Modifier.isPrivate(m.getModifiers())) {
                StringBuilder types = new StringBuilder();
                for (Class<?> type : m.getParameterTypes()) {
                    types.append(types.length() == 0 ? "" : ",").append(type);
                }
                methods.add(m.getName() + "(" + types + ")" + m.getReturnType());
                names.add(m.getName());
                Bench.due(m + " is public", Modifier.isPublic(m.getModifiers()) && !Modifier.isStatic(m.getModifiers()), true);
            }
        }
        same("the face", String.join(" ", methods), FACE);
        for (Class<?> c : QueryTables.class.getDeclaredClasses()) {
            for (Method m : c.getDeclaredMethods()) {
                Bench.due(m + " bears a public name", names.contains(m.getName()), false);
            }
        }
        for (Method m : QueryTables.class.getDeclaredMethods()) {
            boolean hidden = Modifier.isPrivate(m.getModifiers());
            Bench.due(m + " bears a public name", hidden && names.contains(m.getName()), false);
        }
        Bench.due("constructors", QueryTables.class.getDeclaredConstructors().length, 1);
        Bench.due("final", Modifier.isFinal(QueryTables.class.getModifiers()), true);
    }

    private static void fields() {
        TreeSet<String> open = new TreeSet<>();
        for (Field f : QueryTables.class.getDeclaredFields()) {
            if (!Modifier.isPrivate(f.getModifiers())) {
                open.add(f.getName());
                Bench.due(f + " is a constant", Modifier.isStatic(f.getModifiers()) && Modifier.isPublic(f.getModifiers()), true);
            }
            stays(f);
        }
        same("the constants", String.join(" ", open), CONSTANTS);
    }

    private static void stays(Field f) {
        boolean isStatic = Modifier.isStatic(f.getModifiers());
        Bench.due(f + " is final if static", !isStatic || Modifier.isFinal(f.getModifiers()), true);
    }

    private static void nested() {
        Class<?>[] classes = QueryTables.class.getDeclaredClasses();
        Bench.due("not too many classes", classes.length <= 11, true);
        for (Class<?> c : classes) {
            Bench.due(c + " is static", Modifier.isStatic(c.getModifiers()), true);
            Arrays.stream(c.getDeclaredFields()).forEach(RulesTest::stays);
            long own = Arrays.stream(c.getDeclaredFields()).filter(f -> !Modifier.isStatic(f.getModifiers())).count();
            Bench.due(c + " has not too many fields", own <= 20, true);
            for (Method m : c.getDeclaredMethods()) {
                Bench.due(m + " has at most seven parameters", m.getParameterCount() <= 7, true);
            }
        }
    }

    private static void source() throws IOException {
        String text = Files.readString(Path.of("src/main/java/QueryTables.java"));
        String bare = text.replaceAll("(?s)/\\*.*?\\*/", "").replaceAll("//[^\n]*", "").replaceAll("\"[^\"\n]*\"", "\"\"");
        String[] words = {"throw", "throws", "try", "catch", "synchronized", "assert", "import", "package", "protected",
            "Object", "HashMap", "Random", "System.currentTimeMillis", "System.nanoTime", "Exception", "native", "volatile"};
        for (String word : words) {
            Bench.due("the word " + word, Pattern.compile("\\b" + word + "\\b").matcher(bare).find(), false);
        }
        Bench.due("lambdas", bare.contains("->"), false);
        Bench.due("method references", bare.contains("::"), false);
        Bench.due("all characters are plain", text.chars().allMatch(c -> c == '\n' || c >= 32 && c < 127), true);
        methodLengths(bare);
    }

    private static void methodLengths(String bare) {
        String[] lines = bare.split("\n");
        Pattern form = Pattern.compile("^(    |        )[\\w].*\\) \\{$");
        int begin = -1;
        String indent = "";
        for (int i = 0; i < lines.length; i++) {
            Matcher head = form.matcher(lines[i]);
            if (begin < 0 && head.find()) {
                begin = i;
                indent = head.group(1);
            } else if (begin >= 0 && lines[i].equals(indent + "}")) {
                Bench.due("length of " + lines[begin].trim(), i - begin < 60, true);
                begin = -1;
            }
        }
    }
}
