/** What the tests share: an object that is worked by whole texts, and answers held against those that are due. */
final class Bench {
    /** The greatest and the least int as an E; a number of the text has at most nine digits. */
    static final String MOST = "(999999999*2+147483649)";
    static final String LEAST = "(-999999999*2-147483650)";
    private static int wrong = 0;
    private static int asked = 0;
    private static String place = "";
    QueryTables x = new QueryTables();
    private String last = "";
    /** The document tells of 512 calls; those that a test makes past this class find room behind 450. */
    private int calls = 0;

    static void at(String name) {
        place = name;
    }

    /** A new object behind which these texts have been run, each of which must end with DONE. */
    static Bench with(String... texts) {
        Bench bench = new Bench();
        for (String text : texts) {
            bench.code(text, QueryTables.DONE);
        }
        return bench;
    }

    /** Table A of one column with so many rows, whose keys are 0, 1, 2 .. */
    static Bench filled(int rows) {
        Bench bench = with("createA1");
        for (int k = 0; k < rows; k++) {
            bench.done("insertA" + k);
        }
        return bench;
    }

    static void due(String call, long got, long want) {
        asked++;
        if (got != want) {
            wrong++;
            System.out.println(place + ": " + call + " answered " + got + ", due is " + want);
        }
    }

    static void due(String call, boolean got, boolean want) {
        due(call, got ? 1 : 0, want ? 1 : 0);
    }

    Bench type(String text) {
        for (int i = 0; i < text.length(); i++) {
            due("type of " + text + " at " + i, x.type(text.charAt(i)), true);
        }
        return this;
    }

    /** Runs a text and looks at the code. */
    Bench code(String text, int want) {
        type(text);
        due("run of " + text, x.run(), want);
        last = text;
        calls += text.length() + 1;
        due("calls are few behind " + text, calls <= 450, true);
        return this;
    }

    Bench done(String text) {
        return code(text, QueryTables.DONE);
    }

    /** Runs texts each of which must end with the same code. */
    Bench codes(int want, String... texts) {
        for (String text : texts) {
            code(text, want);
        }
        return this;
    }

    /** Looks at what the document tells of a latest run that had no plan, or was not DONE. */
    Bench tellsNothing() {
        due("rows behind " + last, x.rows(), 0);
        due("width behind " + last, x.width(), 0);
        due("value behind " + last, x.value(0, 0), QueryTables.NOTHING);
        due("reads behind " + last, x.reads(), 0);
        due("plan behind " + last, x.plan(), 0);
        calls += 5;
        return this;
    }

    /** Runs a text and looks at all that the run is told to answer. */
    Bench answers(String text, int rows, int plan, int reads) {
        done(text);
        due("rows behind " + text, x.rows(), rows);
        due("plan behind " + text, x.plan(), plan);
        due("reads behind " + text, x.reads(), reads);
        calls += 3;
        return this;
    }

    /** Looks at the whole result of the latest run, told row by row. */
    Bench result(int width, long... values) {
        due("rows behind " + last, x.rows(), values.length / width);
        due("width behind " + last, x.width(), width);
        for (int i = 0; i < values.length; i++) {
            due("value " + i / width + " " + i % width + " behind " + last, x.value(i / width, i % width), values[i]);
        }
        due("value below the last behind " + last, x.value(values.length / width, 0), QueryTables.NOTHING);
        calls += values.length + 4;
        due("value right of the last behind " + last, x.value(0, width), QueryTables.NOTHING);
        return this;
    }

    /** Looks at all rows of a table in the order of their keys. */
    Bench table(int t, int columns, long... cells) {
        due("columns " + t + " behind " + last, x.columns(t), columns);
        calls += cells.length + 2;
        due("size " + t + " behind " + last, x.size(t), cells.length / columns);
        for (int i = 0; i < cells.length; i++) {
            due("cell " + t + " " + i / columns + " " + i % columns + " behind " + last,
                    x.cell(t, i / columns, i % columns), cells[i]);
        }
        return this;
    }

    static void end() {
        System.out.println(wrong == 0 ? asked + " answers are as due" : wrong + " answers are not as due");
        if (wrong != 0 || asked == 0) {
            System.exit(1);
        }
    }
}
