import java.io.IOException;
import java.nio.file.Files;
import java.nio.file.Path;
import java.util.Random;
import java.util.regex.Matcher;
import java.util.regex.Pattern;

/** What the document says of an object as a whole, in "What it is" and "Not promised", and the example of README.md. */
public final class UseTest {
    private static final int[] NUMBERS = {0, 0, 0, 1, 1, 2, 2, 3, 4, 19, 20, 59, 60, -1, 1 << 30, Integer.MAX_VALUE, Integer.MIN_VALUE};
    private static final long[] VALUES = {0, 1, 2, -1, QueryTables.NULL, QueryTables.NOTHING, 1L << 32, Long.MAX_VALUE, Long.MIN_VALUE};
    private static final String[] PIECES = {"create A 3", "create B 2", "insert A 1,2,3", "insert A 2,0,null", "insert B 1,1", "index A b",
        "update A ", "delete B", "select ", "a", "A.b", "b", "c", "1", "999999999", "(", ")", "[", "]", ",", "-", "*", "/", "=", "<", " null",
        " from A", " from A,B", " where ", " not ", " and ", " or ", " order ", " desc", " limit ", "A", ".", "\u007f", "\n", "%", " "};

    public static void main(String[] args) throws IOException {
        workedByText();
        planOfOrderAndIndex();
        laterCallsEnd();
        objectsAreApart();
        sameCallsSameAnswers();
        anyCallsKeepTheTerms();
        exampleOfTheReadme();
        Bench.end();
    }

    private static void workedByText() {
        Bench.at("statements make tables and indexes, put rows in, change them and take them out, and ask for rows");
        Bench bench = Bench.with("create A 2", "create B 2", "index B b", "insert A 1,10", "insert A 2,20", "insert B 7,1", "insert B 8,2");
        bench.done("update A b=b+1 where a=2").done("delete B where a=8").table(0, 2, 1, 10, 2, 21).table(1, 2, 7, 1);
        bench.done("select a,b from A").result(2, 1, 10, 2, 21);
        bench.done("select A.b,B.a from A,B where B.b=A.a").result(2, 10, 7);
        Bench.due("indexed", bench.x.indexed(1, 1), true);
    }

    private static void planOfOrderAndIndex() {
        Bench.at("a plan says in which order and by which index rows are fetched");
        Bench bench = Bench.with("createA1", "createB3", "insertA1", "insertA2", "insertA3", "insertB1,1,5", "insertB2,1,5", "insertB3,2,5");
        bench.answers("select c from A,B where b=A.a", 3, 1 + 4 * 3 + 16, 3 + 3);
        bench.answers("select c from A,B where b=A.a+0", 3, 1 + 4, 3 + 9).done("indexBb");
        bench.answers("select c from A,B where b=A.a+0", 3, 1 + 4 * 2, 3 + 3);
        bench.answers("select c from A,B where b=2", 3, 2 + 4 + 16, 1 + 3);
    }

    /** What they answer is free, but they may neither throw nor go on for ever. */
    private static void laterCallsEnd() {
        Bench.at("what later calls answer is free");
        Bench bench = Bench.with("createA1", "insertA1");
        Random random = new Random(512);
        for (int call = 0; call < 20000; call++) {
            anyCall(bench.x, random);
        }
        Bench.due("they end", true, true);
    }

    private static final String[][] SCRIPTS = {
        {"createA2", "insertA1,5", "select b from A", "updateAb=6", "select b from A"},
        {"createA2", "insertA2,7", "select a from A", "nonsense", "select b,a from A"},
        {"createC1", "insertC3", "insertC3", "select a from C", "insertC4", "deleteC"},
    };

    /** An object that goes through a script call by call, and keeps what it answered and what can be asked behind each. */
    private static final class Player {
        private final QueryTables x = new QueryTables();
        private final StringBuilder answers = new StringBuilder();
        private final String[] script;
        private int text = 0;
        private int at = 0;

        Player(String[] script) {
            this.script = script;
        }

        boolean step() {
            if (text == script.length) {
                return false;
            }
            if (at < script[text].length()) {
                answers.append(x.type(script[text].charAt(at)));
                at++;
            } else {
                answers.append(x.run());
                text++;
                at = 0;
            }
            answers.append(' ').append(x.length()).append(' ').append(x.rows()).append(' ').append(x.value(0, 0));
            answers.append(' ').append(x.columns(0)).append(' ').append(x.cell(0, 0, 1)).append('\n');
            return true;
        }

        static String alone(String[] script) {
            Player player = new Player(script);
            int calls = 0;
            while (player.step()) {
                calls += 6;
            }
            Bench.due("calls are few: " + calls, calls <= 512, true);
            return player.answers.toString();
        }
    }

    private static void objectsAreApart() {
        Bench.at("the calls of one object change nothing of another");
        Player[] players = new Player[SCRIPTS.length];
        for (int i = 0; i < players.length; i++) {
            players[i] = new Player(SCRIPTS[i]);
        }
        for (int turn = 0; turn < 1000; turn++) {
            players[turn % players.length].step();
        }
        for (int i = 0; i < players.length; i++) {
            Bench.due("script " + i + " answers as alone", players[i].answers.toString().equals(Player.alone(SCRIPTS[i])), true);
        }
    }

    private static void sameCallsSameAnswers() {
        Bench.at("the same calls give the same answers");
        for (String[] script : SCRIPTS) {
            Bench.due("those of " + script[1], Player.alone(script).equals(Player.alone(script)), true);
        }
    }

    private static int any(Random random) {
        return NUMBERS[random.nextInt(NUMBERS.length)];
    }

    private static void typeAny(QueryTables x, Random random) {
        for (char c : PIECES[random.nextInt(PIECES.length)].toCharArray()) {
            boolean fits = c >= 32 && c <= 126 && x.length() < 80;
            Bench.due("type of " + (int) c, x.type(c), fits);
        }
    }

    private static void anyCall(QueryTables x, Random random) {
        switch (random.nextInt(12)) {
            case 0, 1, 2, 3 -> typeAny(x, random);
            case 4 -> Bench.due("erase", x.erase() || x.length() == 0, true);
            case 5, 6 -> {
                int code = x.run();
                Bench.due("a code is one of the six: " + code, code >= QueryTables.DONE && code <= QueryTables.ROOM, true);
                Bench.due("length behind run", x.length(), 0);
            }
            case 7 -> isValue(x.value(any(random), any(random)));
            case 8 -> isValue(x.cell(any(random), any(random), any(random)));
            case 9 -> within("count", x.count(any(random), any(random), VALUES[random.nextInt(VALUES.length)]), 20);
            case 10 -> x.indexed(any(random), any(random));
            default -> within("columns", x.columns(any(random)), 4);
        }
    }

    private static void isValue(long told) {
        Bench.due("an int, NULL or NOTHING: " + told, told == (int) told || told == QueryTables.NULL || told == QueryTables.NOTHING, true);
    }

    private static void within(String call, int got, int most) {
        Bench.due(call + " is 0 .. " + most + ": " + got, got >= 0 && got <= most, true);
    }

    /** Whatever is called, what "Terms" says of tables, keys and results holds. */
    private static void anyCallsKeepTheTerms() {
        Bench.at("Terms: whatever is called");
        for (int seed = 0; seed < 3000; seed++) {
            Random random = new Random(seed);
            QueryTables x = new QueryTables();
            for (int call = 0; call < 40; call++) {
                anyCall(x, random);
            }
            within("length", x.length(), 80);
            within("rows", x.rows(), 60);
            within("width", x.width(), 3);
            within("plan", x.plan(), 31);
            within("reads", x.reads(), 420);
            for (int t = 0; t < 3; t++) {
                within("size", x.size(t), x.columns(t) == 0 ? 0 : 20);
                Bench.due("the key has no index", x.indexed(t, 0), false);
                for (int k = 0; k < x.size(t); k++) {
                    long key = x.cell(t, k, 0);
                    Bench.due("a key is an int: " + key, key == (int) key, true);
                    Bench.due("a key is there once: " + key, x.count(t, 0, key), 1);
                    Bench.due("keys go up", k == 0 || x.cell(t, k - 1, 0) < key, true);
                }
            }
        }
    }

    /** Types and runs the texts of the example, and holds the numbers behind its calls against the answers. */
    private static void exampleOfTheReadme() throws IOException {
        Bench.at("README.md: the example");
        String readme = Files.readString(Path.of("README.md"));
        int begin = readme.indexOf("```java");
        String[] lines = readme.substring(begin, readme.indexOf("```", begin + 3)).split("\n");
        Pattern typed = Pattern.compile("\"([^\"]*)\"\\.toCharArray");
        Pattern asked = Pattern.compile("x\\.(\\w+)\\(([^)]*)\\);\\s*// (-?\\d+)\\b");
        Bench bench = new Bench();
        int numbers = 0;
        for (String line : lines) {
            Matcher text = typed.matcher(line);
            Matcher call = asked.matcher(line);
            if (text.find()) {
                bench.done(text.group(1));
            } else if (call.find()) {
                Bench.due(line.trim(), answer(bench.x, call.group(1) + "(" + call.group(2) + ")"), Long.parseLong(call.group(3)));
                numbers++;
            }
        }
        Bench.due("the example tells numbers", numbers > 3, true);
    }

    private static long answer(QueryTables x, String call) {
        switch (call) {
            case "rows()":
                return x.rows();
            case "width()":
                return x.width();
            case "value(0, 1)":
                return x.value(0, 1);
            case "plan()":
                return x.plan();
            case "reads()":
                return x.reads();
            case "size(0)":
                return x.size(0);
            case "cell(0, 0, 1)":
                return x.cell(0, 0, 1);
            default:
                Bench.due("the example calls " + call, false, true);
                return 0;
        }
    }
}
