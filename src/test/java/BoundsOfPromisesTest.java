/** The bounds that the sections "Promise 1" to "Promise 15" name, each at both its sides. */
public final class BoundsOfPromisesTest {
    private static final long NULL = QueryTables.NULL;
    private static final long NOTHING = QueryTables.NOTHING;
    private static final int[] FAR = {Integer.MIN_VALUE, -1000000, -4, -3, -2, -1, 60, 80, 100, 255, 256, 65536, 1 << 30, Integer.MAX_VALUE};

    public static void main(String[] args) {
        newHasNoTables();
        newHasAnEmptyText();
        newHasNoLatestRun();
        typeOfEachCharacter();
        typeOfARefusedCharacter();
        typeWhenFull();
        typeIntoAFullTextIsNotRun();
        eraseOfTheLast();
        eraseOfNone();
        eraseWhenFull();
        runAnswersTheCode();
        runEmptiesTheText();
        runOfAnEmptyText();
        runOfAFullText();
        lengthFromNoneToAll();
        rowsOfEachStatement();
        rowsChangedThoughTheyStay();
        rowsAfterTheLimit();
        rowsWhenNotDone();
        rowsOfTheLatestRun();
        widthOfOneToThree();
        widthOfOthers();
        valueInTheResult();
        valueOutsideTheResult();
        valueOfNoSelect();
        valueStaysUntilTheNextRun();
        readsOfAPlan();
        readsOfNoPlan();
        planOfOneTable();
        planOfTwoTables();
        planOfNone();
        columnsOfTables();
        sizeOfTables();
        indexedColumns();
        indexedOfNone();
        cellByKeys();
        cellOfNone();
        countOfValues();
        countOfNull();
        countOfNone();
        looksChangeNothing();
        callsUpToTheLast();
        Bench.end();
    }

    private static void newHasNoTables() {
        Bench.at("promise 1: No tables");
        for (String name : new String[] {"A", "B", "C"}) {
            new Bench().codes(QueryTables.NAME, "select 1 from " + name, "delete " + name, "insert " + name + " 1").done("create " + name + " 1");
        }
        QueryTables x = new QueryTables();
        for (int t = -1; t <= 3; t++) {
            Bench.due("columns " + t, x.columns(t), 0);
            Bench.due("size " + t, x.size(t), 0);
            for (int c = -1; c <= 4; c++) {
                Bench.due("indexed " + t + " " + c, x.indexed(t, c), false);
                Bench.due("cell " + t + " 0 " + c, x.cell(t, 0, c), NOTHING);
                Bench.due("count " + t + " " + c, x.count(t, c, 0), 0);
                Bench.due("count of NULL " + t + " " + c, x.count(t, c, NULL), 0);
                Bench.due("count of NOTHING " + t + " " + c, x.count(t, c, NOTHING), 0);
            }
        }
    }

    private static void newHasAnEmptyText() {
        Bench.at("promise 1: an empty text");
        QueryTables x = new QueryTables();
        Bench.due("length", x.length(), 0);
        Bench.due("erase", x.erase(), false);
        Bench.due("run", x.run(), QueryTables.SYNTAX);
        Bench.due("length", x.length(), 0);
    }

    private static void newHasNoLatestRun() {
        Bench.at("promise 1: before the first run there is nothing to tell");
        new Bench().tellsNothing().type("create A 1").tellsNothing();
        QueryTables one = new Bench().done("create A 1").done("insert A 1").done("select a from A").x;
        QueryTables other = new QueryTables();
        Bench.due("rows of another", other.rows(), 0);
        Bench.due("columns of another", other.columns(0), 0);
        Bench.due("rows of the one", one.rows(), 1);
    }

    private static void typeOfEachCharacter() {
        Bench.at("promise 2: false when c is not 32 .. 126");
        for (int c = 0; c < 400; c++) {
            QueryTables x = new QueryTables();
            Bench.due("type of " + c, x.type((char) c), c >= 32 && c <= 126);
            Bench.due("length behind " + c, x.length(), c >= 32 && c <= 126 ? 1 : 0);
        }
        char[] far = {31, 127, 128, 160, 255, 256, 256 + 'a', 512 + 'a', 0x2000, 0x2028, 0x3000, 0x7fff, 0x8000, 0xfeff, 0xff21, 0xffff};
        for (char c : far) {
            Bench.due("type of " + (int) c, new QueryTables().type(c), false);
        }
    }

    private static void typeOfARefusedCharacter() {
        Bench.at("promise 2: false, changing nothing, when c is not 32 .. 126");
        Bench bench = new Bench();
        String text = "create A 2";
        for (int i = 0; i < text.length(); i++) {
            Bench.due("type of 9", bench.x.type((char) 9), false);
            Bench.due("type of 10", bench.x.type('\n'), false);
            Bench.due("type of 127", bench.x.type((char) 127), false);
            Bench.due("length", bench.x.length(), i);
            Bench.due("type", bench.x.type(text.charAt(i)), true);
        }
        Bench.due("run", bench.x.run(), 0);
        bench.table(0, 2);
    }

    private static void typeWhenFull() {
        Bench.at("promise 2: false, changing nothing, when 80 are there");
        QueryTables x = new QueryTables();
        for (int i = 1; i <= 80; i++) {
            Bench.due("type of number " + i, x.type('a'), true);
            Bench.due("length", x.length(), i);
        }
        for (int i = 0; i < 3; i++) {
            Bench.due("type when full", x.type('b'), false);
            Bench.due("type of a wrong one when full", x.type((char) 200), false);
            Bench.due("length when full", x.length(), 80);
        }
        Bench.due("erase", x.erase(), true);
        Bench.due("length", x.length(), 79);
        Bench.due("type", x.type('b'), true);
        Bench.due("type when full again", x.type('b'), false);
        Bench.due("length", x.length(), 80);
    }

    private static String toTheEnd(int length, String text) {
        return " ".repeat(length - text.length()) + text;
    }

    /** The statement ends with the text's last character; a refused one behind it would make it another. */
    private static void typeIntoAFullTextIsNotRun() {
        Bench.at("promise 2: what is refused when full is not in the text");
        for (int length = 79; length <= 80; length++) {
            Bench bench = Bench.with("create A 1", "insert A 2", "insert A 25");
            bench.type(toTheEnd(length, "select a from A where a=2"));
            Bench.due("type of 5 at " + length, bench.x.type('5'), length < 80);
            Bench.due("run", bench.x.run(), 0);
            Bench.due("value", bench.x.value(0, 0), length < 80 ? 25 : 2);
        }
    }

    private static void eraseOfTheLast() {
        Bench.at("promise 3: Takes the last character out and answers true");
        Bench bench = new Bench().type("create A 23");
        Bench.due("erase", bench.x.erase(), true);
        Bench.due("length", bench.x.length(), 10);
        Bench.due("run", bench.x.run(), 0);
        bench.table(0, 2);
        bench.type("insert A 1,5").x.erase();
        bench.type("6");
        Bench.due("run", bench.x.run(), 0);
        bench.table(0, 2, 1, 6);
    }

    private static void eraseOfNone() {
        Bench.at("promise 3: false when there is none");
        QueryTables x = new QueryTables();
        Bench.due("erase of none", x.erase(), false);
        Bench.due("type", x.type(' '), true);
        Bench.due("erase of one", x.erase(), true);
        Bench.due("erase of none", x.erase(), false);
        Bench.due("length", x.length(), 0);
        x.type('a');
        x.type('b');
        Bench.due("erase of two", x.erase(), true);
        Bench.due("erase of one", x.erase(), true);
        Bench.due("erase of none", x.erase(), false);
        x.type('a');
        x.run();
        Bench.due("erase behind run", x.erase(), false);
        Bench.due("length behind it", x.length(), 0);
        Bench bench = new Bench();
        bench.x.erase();
        bench.done("create A 1").table(0, 1);
    }

    private static void eraseWhenFull() {
        Bench.at("promise 3: erase from a full text to an empty one");
        QueryTables x = new QueryTables();
        for (int i = 0; i < 80; i++) {
            x.type('x');
        }
        for (int i = 79; i >= 0; i--) {
            Bench.due("erase", x.erase(), true);
            Bench.due("length", x.length(), i);
        }
        Bench.due("erase of none", x.erase(), false);
    }

    private static void runAnswersTheCode() {
        Bench.at("promise 4: Runs the text and answers the code");
        Bench bench = new Bench().code("create A 1", 0).code("create A", 1).code("create A 1", 2).code("create B 5", 3).code("insert A 1/0", 4);
        for (int k = 0; k < 20; k++) {
            bench.code("insertA" + k, 0);
        }
        bench.code("insertA20", 5);
    }

    private static void runEmptiesTheText() {
        Bench.at("promise 4: the text is empty then");
        String[] texts = {"", "create A 2", "nonsense", "create A 2", "create B 5", "insert A null,2", "insert A 1,2", "select a from A"};
        Bench bench = new Bench();
        for (String text : texts) {
            bench.type(text).x.run();
            Bench.due("length behind " + text, bench.x.length(), 0);
            Bench.due("erase behind " + text, bench.x.erase(), false);
        }
        bench.type("select").x.run();
        bench.code(" a from A", QueryTables.SYNTAX).done("select b from A").result(1, 2);
    }

    private static void runOfAnEmptyText() {
        Bench.at("promise 4: an empty text is no statement");
        Bench bench = new Bench().code("", 1).code("", 1).done("create A 1").code("", 1).tellsNothing().done("insert A 1");
        bench.done("select a from A").code("", 1).tellsNothing().table(0, 1, 1);
        bench.type("a").x.erase();
        Bench.due("run of what was erased", bench.x.run(), 1);
    }

    private static void runOfAFullText() {
        Bench.at("promise 4: a text of 80 characters is run to its end");
        for (int length = 78; length <= 80; length++) {
            Bench.with("create A 1", "insert A 1", "insert A 12").done(toTheEnd(length, "select a from A where a=12")).result(1, 12);
            Bench.with("create A 1").code(toTheEnd(length, "select a from A where a=1 a"), QueryTables.SYNTAX);
            Bench.with("create A 1").code(toTheEnd(length, "select a from A where a=1 %"), QueryTables.SYNTAX);
        }
    }

    private static void lengthFromNoneToAll() {
        Bench.at("promise 5: The number of characters of the text");
        QueryTables x = new QueryTables();
        for (int i = 0; i <= 82; i++) {
            Bench.due("length", x.length(), Math.min(i, 80));
            x.type(i % 2 == 0 ? ' ' : '~');
        }
        x.erase();
        Bench.due("length behind erase", x.length(), 79);
        x.run();
        Bench.due("length behind run", x.length(), 0);
        x.erase();
        Bench.due("length behind erase of none", x.length(), 0);
        x.type((char) 31);
        Bench.due("length behind a refused one", x.length(), 0);
        x.type(' ');
        Bench.due("a blank is one, too", x.length(), 1);
    }

    private static Bench three() {
        return Bench.with("create A 2", "insert A 1,5", "insert A 2,5", "insert A 3,null");
    }

    private static void rowsOfEachStatement() {
        Bench.at("promise 6: the number of rows of the result, put in, changed or taken out, otherwise 0");
        Bench bench = new Bench().answers("create A 2", 0, 0, 0).answers("insert A 1,5", 1, 0, 0).answers("insert A 2,5", 1, 0, 0);
        bench.answers("index A b", 0, 0, 0).answers("select a from A", 2, 1, 2).answers("create B 1", 0, 0, 0);
        bench.answers("update A b=6 where a=9", 0, 3, 0).answers("update A b=6 where a=1", 1, 3, 1).answers("update A b=6", 2, 1, 2);
        bench.answers("select a from A where b=7", 0, 2, 0).answers("select a from A where b=6", 2, 2, 2);
        bench.answers("delete A where a=9", 0, 3, 0).answers("delete A where a=1", 1, 3, 1).answers("delete A", 1, 1, 1).answers("delete A", 0, 1, 0);
    }

    private static void rowsChangedThoughTheyStay() {
        Bench.at("promise 6: changed (all found, also when their value stays)");
        three().answers("update A b=b", 3, 1, 3).answers("update A b=5", 3, 1, 3).answers("update A b=5", 3, 1, 3);
        three().answers("update A a=a", 3, 1, 3).answers("update A b=5 where b=5", 2, 1, 3).answers("update A b=null where b null", 1, 1, 3);
        three().answers("update A a=1 where a=1", 1, 3, 1).answers("update A b=6 where b>5", 0, 1, 3);
    }

    private static void rowsAfterTheLimit() {
        Bench.at("promise 6: the number of rows of the result: those that limit leaves");
        for (int limit = 0; limit <= 4; limit++) {
            three().answers("select a from A limit " + limit, Math.min(limit, 3), 1, 3);
        }
    }

    private static void rowsWhenNotDone() {
        Bench.at("promises 6 to 10: a latest run that was not DONE");
        String[] texts = {"", "select", "select c from A", "create A 1", "create B 9", "insert A 9", "insert A 1,1", "update A a=7", "update A a=null"};
        int[] codes = {1, 1, 2, 2, 3, 3, 4, 4, 4};
        for (int i = 0; i < texts.length; i++) {
            three().answers("select a from A", 3, 1, 3).code(texts[i], codes[i]).tellsNothing().answers("select a,b from A", 3, 1, 3);
        }
        Bench full = Bench.with("createA1", "createB1");
        for (int k = 0; k < 16; k++) {
            full.done("insert" + (k % 2 == 0 ? "A" : "B") + k);
        }
        full.answers("select A.a from A,B where A.a<14", 56, 5, 8 + 56).code("select A.a from A,B", QueryTables.ROOM).tellsNothing();
    }

    private static void rowsOfTheLatestRun() {
        Bench.at("promises 6 to 10: OF THE LATEST run");
        Bench bench = three().answers("select a from A", 3, 1, 3);
        bench.type("delete A");
        Bench.due("rows while typing", bench.x.rows(), 3);
        Bench.due("width while typing", bench.x.width(), 1);
        Bench.due("reads while typing", bench.x.reads(), 3);
        Bench.due("plan while typing", bench.x.plan(), 1);
        Bench.due("value while typing", bench.x.value(2, 0), 3);
        Bench.due("run", bench.x.run(), 0);
        Bench.due("rows", bench.x.rows(), 3);
        Bench.due("width", bench.x.width(), 0);
        Bench.due("value", bench.x.value(0, 0), NOTHING);
        bench.answers("select a from A", 0, 1, 0).result(1);
    }

    private static void widthOfOneToThree() {
        Bench.at("promise 7: The number of E of the latest run");
        three().done("select a from A").result(1, 1, 2, 3);
        three().done("select a,a from A where a=1").result(2, 1, 1);
        three().done("select a,1,null from A where a=1").result(3, 1, 1, NULL);
        three().done("select a,1,null from A where a=9").result(3);
        three().done("select a,b from A limit 0").result(2);
        three().done("select 1,2,3 from A limit 1").result(3, 1, 2, 3).done("select 4 from A limit 1").result(1, 4);
        Bench bench = three().code("select 1,2,3,4 from A", QueryTables.SYNTAX);
        Bench.due("width of four", bench.x.width(), 0);
    }

    private static void widthOfOthers() {
        Bench.at("promise 7: .. if that was a select with the code DONE; 0 otherwise");
        String[] others = {"create B 3", "index A b", "insert A 4,4", "update A b=1", "delete A where a=1"};
        for (String other : others) {
            Bench bench = three().done("select a,b from A");
            Bench.due("width", bench.x.width(), 2);
            bench.done(other);
            Bench.due("width behind " + other, bench.x.width(), 0);
        }
        three().done("select a,b from A").code("select a,b from A,B", QueryTables.NAME).tellsNothing();
    }

    private static void valueInTheResult() {
        Bench.at("promise 8: Value c of row r of the result");
        three().done("select a,b,a*10 from A").result(3, 1, 5, 10, 2, 5, 20, 3, NULL, 30);
        three().done("select a,b,a*10 from A order a desc").result(3, 3, NULL, 30, 2, 5, 20, 1, 5, 10);
    }

    private static void valueOutsideTheResult() {
        Bench.at("promise 8: NOTHING when there is none");
        Bench bench = three().done("select a,b from A");
        for (int r = -2; r <= 5; r++) {
            for (int c = -2; c <= 5; c++) {
                boolean there = r >= 0 && r < 3 && c >= 0 && c < 2;
                long want = c == 0 ? r + 1 : r < 2 ? 5 : NULL;
                Bench.due("value " + r + " " + c, bench.x.value(r, c), there ? want : NOTHING);
            }
        }
        for (int far : FAR) {
            Bench.due("value " + far + " 0", bench.x.value(far, 0), NOTHING);
            Bench.due("value 0 " + far, bench.x.value(0, far), NOTHING);
            Bench.due("value " + far + " " + far, bench.x.value(far, far), NOTHING);
        }
        // Products that wrap to a place inside must not be taken for it.
        int[] wrapping = {1 << 29, 1 << 30, 1 << 31, 1431655766, 715827883, -1431655765};
        for (int r : wrapping) {
            Bench.due("value " + r + " 0", bench.x.value(r, 0), NOTHING);
            Bench.due("value " + r + " 1", bench.x.value(r, 1), NOTHING);
        }
        Bench.due("value 1 -1", bench.x.value(1, -1), NOTHING);
        Bench.due("value -1 4", bench.x.value(-1, 4), NOTHING);
        bench.done("select a from A limit 1").result(1, 1);
        Bench.due("value behind the limit", bench.x.value(1, 0), NOTHING);
        bench.done("select a from A limit 0").result(1);
    }

    private static void valueOfNoSelect() {
        Bench.at("promise 8: (also behind one that was no select, or not DONE)");
        String[] others = {"create B 3", "index A b", "insert A 4,4", "update A b=1", "delete A where a=1"};
        for (String other : others) {
            Bench bench = three().done("select a,b from A").done(other);
            Bench.due("value behind " + other, bench.x.value(0, 0), NOTHING);
            Bench.due("second value behind " + other, bench.x.value(0, 1), NOTHING);
        }
        three().done("select a from A").code("select", 1).tellsNothing().done("select a from A").code("select c from A", 2).tellsNothing();
    }

    private static void valueStaysUntilTheNextRun() {
        Bench.at("promise 8: of the LATEST run, as it was then");
        Bench bench = three().done("select b,a from A where a<3").result(2, 5, 1, 5, 2);
        bench.type("update A b=9").result(2, 5, 1, 5, 2);
        Bench.due("run", bench.x.run(), 0);
        bench.done("select b from A").result(1, 9, 9, 9).done("select b from A where a=1").result(1, 9);
    }

    private static void readsOfAPlan() {
        Bench.at("promise 9: READS of the latest run, if it had a plan");
        three().answers("select a from A", 3, 1, 3).answers("update A b=1 where a=1", 1, 3, 1).answers("delete A where b=5", 1, 1, 3);
        three().answers("select a from A where a=9", 0, 3, 0).answers("select a from A limit 1", 1, 1, 3);
    }

    private static void readsOfNoPlan() {
        Bench.at("promise 9: 0 otherwise");
        String[] others = {"create B 3", "index A b", "insert A 4,4"};
        for (String other : others) {
            Bench bench = three().answers("select a from A", 3, 1, 3).done(other);
            Bench.due("reads behind " + other, bench.x.reads(), 0);
            Bench.due("plan behind " + other, bench.x.plan(), 0);
        }
        three().answers("select a from A", 3, 1, 3).code("update A a=1", QueryTables.KEY).tellsNothing();
        three().answers("select a from A", 3, 1, 3).code("delete A where", QueryTables.SYNTAX).tellsNothing();
        three().answers("select a from A", 3, 1, 3).code("delete A where c=1", QueryTables.NAME).tellsNothing();
    }

    private static void planOfOneTable() {
        Bench.at("promise 10: the access of its first table");
        Bench bench = three().done("index A b");
        bench.answers("select a from A", 3, 1, 3).answers("select a from A where b=5", 2, 2, 2).answers("select a from A where a=1", 1, 3, 1);
        bench.answers("update A b=5 where b=6", 0, 2, 0).answers("delete A where a=9", 0, 3, 0).answers("delete A where a>9", 0, 1, 3);
    }

    /** Every sum of two accesses that a plan of two tables can have, in both orders of the statement. */
    private static void planOfTwoTables() {
        Bench.at("promise 10: also four times that of the other, and 16 when the plan's first is the one named second");
        String[] ofA = {"A.a>0", "A.b=1", "A.a=1"};
        String[] ofB = {"B.a>0", "B.b=1", "B.a=1"};
        for (int i = 0; i < 3; i++) {
            for (int j = 0; j < 3; j++) {
                Bench bench = Bench.with("createA2", "createB2", "insertA1,1", "insertA2,1", "insertA3,1", "insertB1,1", "insertB2,1",
                        "insertB3,1", "insertB4,1", "insertB5,1", "indexAb", "indexBb");
                int[] sizesA = {3, 2, 1};
                int[] sizesB = {5, 3, 1};
                int tie = sizesA[i] == sizesB[j] ? 1 : 0;
                boolean aFirst = sizesA[i] < sizesB[j];
                String c = " where " + ofA[i] + " and " + ofB[j];
                bench.done("select A.a from A,B" + c);
                Bench.due("plan of A,B" + c, bench.x.plan(), aFirst || tie == 1 ? i + 1 + 4 * (j + 1) : j + 1 + 4 * (i + 1) + 16);
                bench.done("select A.a from B,A" + c);
                Bench.due("plan of B,A" + c, bench.x.plan(), aFirst ? i + 1 + 4 * (j + 1) + 16 : j + 1 + 4 * (i + 1));
            }
        }
    }

    private static void planOfNone() {
        Bench.at("promise 10: 0 otherwise");
        new Bench().tellsNothing().done("create A 1").tellsNothing().code("", 1).tellsNothing().code("insert A null", 4).tellsNothing();
        three().answers("select a from A where a=1", 1, 3, 1).code("select c from A where a=1", 2).tellsNothing();
    }

    private static void columnsOfTables() {
        Bench.at("promise 11: The number of columns of table t; 0 when there is no such table");
        Bench bench = Bench.with("create A 4", "create C 1");
        int[] want = {0, 0, 4, 0, 1, 0, 0};
        for (int t = -2; t <= 4; t++) {
            Bench.due("columns " + t, bench.x.columns(t), want[t + 2]);
        }
        for (int far : FAR) {
            Bench.due("columns " + far, bench.x.columns(far), 0);
        }
        bench.done("insert A 1,1,1,1").done("delete A");
        Bench.due("columns without rows", bench.x.columns(0), 4);
    }

    private static void sizeOfTables() {
        Bench.at("promise 12: The number of rows of table t; 0 when there is no such table");
        Bench bench = Bench.with("create A 1", "create C 2", "insert A 5", "insert A 6", "insert C 1,1");
        int[] want = {0, 0, 2, 0, 1, 0, 0};
        for (int t = -2; t <= 4; t++) {
            Bench.due("size " + t, bench.x.size(t), want[t + 2]);
        }
        for (int far : FAR) {
            Bench.due("size " + far, bench.x.size(far), 0);
        }
        bench.done("delete A where a=5");
        Bench.due("size", bench.x.size(0), 1);
        bench.done("delete A");
        Bench.due("size", bench.x.size(0), 0);
    }

    private static void indexedColumns() {
        Bench.at("promise 13: Whether column c of table t has an index");
        for (int t = 0; t < 3; t++) {
            for (int c = 1; c < 4; c++) {
                Bench bench = Bench.with("createA4", "createB4", "createC4", "index" + (char) ('A' + t) + (char) ('a' + c));
                for (int other = 0; other < 12; other++) {
                    Bench.due("indexed " + other / 4 + " " + other % 4, bench.x.indexed(other / 4, other % 4), other == 4 * t + c);
                }
            }
        }
    }

    private static void indexedOfNone() {
        Bench.at("promise 13: false when there is none such");
        Bench bench = Bench.with("create A 3", "index A b", "index A c");
        for (int t = -1; t <= 3; t++) {
            for (int c = -1; c <= 5; c++) {
                Bench.due("indexed " + t + " " + c, bench.x.indexed(t, c), t == 0 && (c == 1 || c == 2));
            }
        }
        for (int far : FAR) {
            Bench.due("indexed 0 " + far, bench.x.indexed(0, far), false);
            Bench.due("indexed " + far + " 1", bench.x.indexed(far, 1), false);
            Bench.due("indexed " + far + " " + far, bench.x.indexed(far, far), false);
        }
    }

    private static void cellByKeys() {
        Bench.at("promise 14: of the row of table t which has the k-th least key (from 0)");
        Bench bench = Bench.with("create A 2", "insert A 5,1", "insert A -7,null", "insert A 0,3", "insert A " + Bench.MOST + ",4",
                "insert A " + Bench.LEAST + ",5");
        bench.table(0, 2, Integer.MIN_VALUE, 5, -7, NULL, 0, 3, 5, 1, Integer.MAX_VALUE, 4);
        bench.done("update A a=10 where a=-7").table(0, 2, Integer.MIN_VALUE, 5, 0, 3, 5, 1, 10, NULL, Integer.MAX_VALUE, 4);
        bench.done("delete A where a=0").table(0, 2, Integer.MIN_VALUE, 5, 5, 1, 10, NULL, Integer.MAX_VALUE, 4);
    }

    private static void cellOfNone() {
        Bench.at("promise 14: NOTHING when there is none");
        Bench bench = Bench.with("create A 2", "insert A 1,11", "insert A 2,12", "create B 4", "insert B 9,9,9,9");
        for (int t = -1; t <= 3; t++) {
            for (int k = -1; k <= 2; k++) {
                for (int c = -1; c <= 4; c++) {
                    boolean ofA = t == 0 && (k == 0 || k == 1) && (c == 0 || c == 1);
                    boolean ofB = t == 1 && k == 0 && c >= 0 && c < 4;
                    Bench.due("cell " + t + " " + k + " " + c, bench.x.cell(t, k, c), ofA ? k + 1 + 10 * c : ofB ? 9 : NOTHING);
                }
            }
        }
        for (int far : FAR) {
            Bench.due("cell " + far + " 0 0", bench.x.cell(far, 0, 0), NOTHING);
            Bench.due("cell 0 " + far + " 0", bench.x.cell(0, far, 0), NOTHING);
            Bench.due("cell 0 0 " + far, bench.x.cell(0, 0, far), NOTHING);
            Bench.due("cell " + far + " all", bench.x.cell(far, far, far), NOTHING);
        }
        Bench.due("cell 0 1 -4", bench.x.cell(0, 1, -4), NOTHING);
        Bench.due("cell 0 -1 4", bench.x.cell(0, -1, 4), NOTHING);
        Bench.due("cell that wraps", bench.x.cell(0, 1 << 30, 0), NOTHING);
        bench.done("delete A where a=2");
        Bench.due("cell of a row gone", bench.x.cell(0, 1, 0), NOTHING);
        bench.done("delete A");
        Bench.due("cell of the last row gone", bench.x.cell(0, 0, 0), NOTHING);
    }

    private static void countOfValues() {
        Bench.at("promise 15: How many rows of table t have the value v in column c");
        Bench bench = Bench.with("create A 3", "insert A 1,4,0", "insert A 2,4,0", "insert A 3,-4,0", "insert A 4,null,1", "create B 2", "insert B 1,4");
        long[] values = {3, 4, 5, -4, 0, 4 + (1L << 32), 4 - (1L << 32), 4 + NULL, Long.MAX_VALUE, Long.MIN_VALUE, NOTHING, -NULL, 1L << 39};
        int[] want = {0, 2, 0, 1, 0, 0, 0, 0, 0, 0, 0, 0, 0};
        for (int i = 0; i < values.length; i++) {
            Bench.due("count of " + values[i], bench.x.count(0, 1, values[i]), want[i]);
        }
        Bench.due("count of 0", bench.x.count(0, 2, 0), 3);
        Bench.due("count of 1", bench.x.count(0, 2, 1), 1);
        Bench.due("count of 2^32", bench.x.count(0, 2, 1L << 32), 0);
        Bench.due("count of a key", bench.x.count(0, 0, 4), 1);
        Bench.due("count of no key", bench.x.count(0, 0, 0), 0);
        Bench.due("count of no key", bench.x.count(0, 0, 5), 0);
        Bench.due("count in B", bench.x.count(1, 1, 4), 1);
        bench.done("delete A where a=1");
        Bench.due("count behind delete", bench.x.count(0, 1, 4), 1);
        bench.done("update A b=9");
        Bench.due("count behind update", bench.x.count(0, 1, 9), 3);
        bench = Bench.with("create A 2", "insert A 1," + Bench.MOST, "insert A 2," + Bench.LEAST);
        Bench.due("count of the greatest", bench.x.count(0, 1, Integer.MAX_VALUE), 1);
        Bench.due("count of the least", bench.x.count(0, 1, Integer.MIN_VALUE), 1);
        Bench.due("count of one more", bench.x.count(0, 1, 1L + Integer.MAX_VALUE), 0);
        Bench.due("count of one less", bench.x.count(0, 1, -1L + Integer.MIN_VALUE), 0);
    }

    private static void countOfNull() {
        Bench.at("promise 15: (v may be NULL as it is told.)");
        Bench bench = Bench.with("create A 3", "insert A 1,null,0", "insert A 2,null,0", "insert A 3,0,0");
        Bench.due("count of NULL", bench.x.count(0, 1, NULL), 2);
        Bench.due("count of NULL where there is none", bench.x.count(0, 2, NULL), 0);
        Bench.due("count of NULL keys", bench.x.count(0, 0, NULL), 0);
        Bench.due("count of NULL in no column", bench.x.count(0, 3, NULL), 0);
        Bench.due("count beside NULL", bench.x.count(0, 1, NULL - 1), 0);
        Bench.due("count beside NULL", bench.x.count(0, 1, NULL + 1), 0);
        bench.done("update A b=1 where b null");
        Bench.due("count of NULL behind update", bench.x.count(0, 1, NULL), 0);
    }

    private static void countOfNone() {
        Bench.at("promise 15: 0 when there is no such table or column");
        Bench bench = Bench.with("create A 2", "insert A 0,0", "insert A 1,null");
        for (int t = -1; t <= 3; t++) {
            for (int c = -1; c <= 4; c++) {
                boolean there = t == 0 && (c == 0 || c == 1);
                Bench.due("count of 0 in " + t + " " + c, bench.x.count(t, c, 0), there ? 1 : 0);
                Bench.due("count of NULL in " + t + " " + c, bench.x.count(t, c, NULL), t == 0 && c == 1 ? 1 : 0);
                Bench.due("count of NOTHING in " + t + " " + c, bench.x.count(t, c, NOTHING), 0);
            }
        }
        for (int far : FAR) {
            Bench.due("count in column " + far, bench.x.count(0, far, 0), 0);
            Bench.due("count in table " + far, bench.x.count(far, 0, 0), 0);
            Bench.due("count in " + far, bench.x.count(far, far, NOTHING), 0);
        }
    }

    private static void looksChangeNothing() {
        Bench.at("promises 5 to 15: a call that only asks changes nothing");
        Bench bench = three().done("select a,b from A").type("select b from");
        for (int turn = 0; turn < 2; turn++) {
            bench.result(2, 1, 5, 2, 5, 3, NULL).table(0, 2, 1, 5, 2, 5, 3, NULL);
            Bench.due("length", bench.x.length(), 13);
            Bench.due("reads", bench.x.reads(), 3);
            Bench.due("plan", bench.x.plan(), 1);
            Bench.due("indexed", bench.x.indexed(0, 1), false);
            Bench.due("count", bench.x.count(0, 1, 5), 2);
        }
        bench.done(" A where a=2").result(1, 5);
    }

    /** The answers of the 510th to the 512th call are due like those of the first. */
    private static void callsUpToTheLast() {
        Bench.at("An object is used for at most 512 calls");
        QueryTables x = new QueryTables();
        int calls = 0;
        for (char c : "createA1".toCharArray()) {
            x.type(c);
            calls++;
        }
        x.run();
        calls++;
        for (int turn = 0; turn < 5; turn++) {
            for (int i = 0; i < 80; i++) {
                Bench.due("call " + calls, x.type('x'), true);
                calls++;
            }
            Bench.due("call " + calls, x.run(), QueryTables.SYNTAX);
            calls++;
        }
        for (; calls < 500; calls++) {
            Bench.due("call " + calls, x.columns(0), 1);
        }
        for (char c : "insertA7".toCharArray()) {
            Bench.due("call " + calls, x.type(c), true);
            calls++;
        }
        Bench.due("call " + calls, x.run(), 0);
        Bench.due("call 510", x.rows(), 1);
        Bench.due("call 511", x.cell(0, 0, 0), 7);
        Bench.due("call 512", x.size(0), 1);
    }
}
