/** Each promise of the document on its own: ordinary inputs, the edges it names, and wrong inputs. */
public final class PromisesTest {
    private static final long NULL = QueryTables.NULL;
    private static final long NOTHING = QueryTables.NOTHING;
    private static final int[] WRONG = {-1, Integer.MIN_VALUE, Integer.MAX_VALUE, 1 << 30, 60, 20, 4};

    public static void main(String[] args) {
        constants();
        newObject();
        type();
        erase();
        run();
        length();
        rows();
        width();
        value();
        reads();
        plan();
        columns();
        size();
        indexed();
        cell();
        count();
        Bench.end();
    }

    private static void constants() {
        Bench.at("constants");
        Bench.due("DONE", QueryTables.DONE, 0);
        Bench.due("SYNTAX", QueryTables.SYNTAX, 1);
        Bench.due("NAME", QueryTables.NAME, 2);
        Bench.due("COUNT", QueryTables.COUNT, 3);
        Bench.due("KEY", QueryTables.KEY, 4);
        Bench.due("ROOM", QueryTables.ROOM, 5);
        Bench.due("NULL", QueryTables.NULL, 1099511627776L);
        Bench.due("NOTHING", QueryTables.NOTHING, 2199023255552L);
    }

    private static void newObject() {
        Bench.at("promise 1");
        QueryTables x = new QueryTables();
        Bench.due("length", x.length(), 0);
        Bench.due("erase", x.erase(), false);
        Bench.due("rows", x.rows(), 0);
        Bench.due("width", x.width(), 0);
        Bench.due("value", x.value(0, 0), NOTHING);
        Bench.due("reads", x.reads(), 0);
        Bench.due("plan", x.plan(), 0);
        for (int t = 0; t < 3; t++) {
            Bench.due("columns", x.columns(t), 0);
            Bench.due("size", x.size(t), 0);
            for (int c = 0; c < 4; c++) {
                Bench.due("indexed", x.indexed(t, c), false);
                Bench.due("cell", x.cell(t, 0, c), NOTHING);
                Bench.due("count", x.count(t, c, 0), 0);
                Bench.due("count of NULL", x.count(t, c, NULL), 0);
            }
        }
        Bench other = Bench.with("create A 1", "insert A 1");
        Bench.due("another object stays empty", x.columns(0), 0);
        Bench.due("and this one has its row", other.x.size(0), 1);
    }

    private static void type() {
        Bench.at("promise 2");
        QueryTables x = new QueryTables();
        int[] refused = {0, 9, 10, 31, 127, 128, 160, 255, 256 + 65, 65535};
        for (int c : refused) {
            Bench.due("type of " + c, x.type((char) c), false);
        }
        Bench.due("length behind refused ones", x.length(), 0);
        for (int c = 32; c <= 126; c++) {
            QueryTables each = new QueryTables();
            Bench.due("type of " + c, each.type((char) c), true);
            Bench.due("length", each.length(), 1);
        }
        for (int i = 0; i < 80; i++) {
            Bench.due("type " + i, x.type(' '), true);
        }
        Bench.due("type of one too many", x.type(' '), false);
        Bench.due("length when full", x.length(), 80);
        Bench.due("erase when full", x.erase(), true);
        Bench.due("type again", x.type(' '), true);
        fullText();
    }

    /** The 80th character still counts, and what is refused behind it does not. */
    private static void fullText() {
        Bench bench = Bench.with("create A 1", "insert A 1", "insert A 25");
        String text = "select a from A where a=2";
        bench.type(" ".repeat(80 - text.length()) + text);
        Bench.due("type of 5 behind the 80th", bench.x.type('5'), false);
        Bench.due("run", bench.x.run(), 0);
        Bench.due("rows for a=2", bench.x.rows(), 0);
        text = "select a from A where a=25";
        bench.done(" ".repeat(80 - text.length()) + text);
        Bench.due("rows for a=25", bench.x.rows(), 1);
    }

    private static void erase() {
        Bench.at("promise 3");
        Bench bench = new Bench();
        Bench.due("erase of nothing", bench.x.erase(), false);
        bench.type("create A 12");
        Bench.due("erase", bench.x.erase(), true);
        Bench.due("length", bench.x.length(), 10);
        Bench.due("run", bench.x.run(), 0);
        Bench.due("columns", bench.x.columns(0), 1);
        Bench.due("erase behind run", bench.x.erase(), false);
        bench.type("ab");
        Bench.due("erase b", bench.x.erase(), true);
        Bench.due("erase a", bench.x.erase(), true);
        Bench.due("erase of nothing", bench.x.erase(), false);
        Bench.due("length", bench.x.length(), 0);
    }

    private static void run() {
        Bench.at("promise 4");
        Bench bench = new Bench();
        bench.code("", QueryTables.SYNTAX).code("   ", QueryTables.SYNTAX);
        String[] texts = {"create A 2", "nonsense", "create A 2", "create B 5", "insert A 1,2", "insert A 1,2"};
        int[] codes = {0, 1, 2, 3, 0, 4};
        for (int i = 0; i < texts.length; i++) {
            bench.code(texts[i], codes[i]);
            Bench.due("length behind run of " + texts[i], bench.x.length(), 0);
        }
        bench.code("", QueryTables.SYNTAX);
        bench.table(0, 2, 1, 2);
    }

    private static void length() {
        Bench.at("promise 5");
        QueryTables x = new QueryTables();
        for (int i = 0; i < 85; i++) {
            Bench.due("length", x.length(), Math.min(i, 80));
            x.type('x');
        }
        x.type((char) 7);
        x.erase();
        Bench.due("length behind erase", x.length(), 79);
        x.run();
        Bench.due("length behind run", x.length(), 0);
    }

    private static void rows() {
        Bench.at("promise 6");
        Bench bench = new Bench();
        bench.answers("create A 2", 0, 0, 0);
        bench.answers("insert A 1,5", 1, 0, 0).answers("insert A 2,5", 1, 0, 0).answers("insert A 3,null", 1, 0, 0);
        bench.answers("index A b", 0, 0, 0);
        bench.answers("update A b=5 where b=5", 2, 2, 2);
        bench.answers("update A b=b", 3, 1, 3);
        bench.answers("update A b=1 where a=9", 0, 3, 0);
        bench.answers("select a from A limit 2", 2, 1, 3);
        bench.answers("select a from A limit 0", 0, 1, 3).result(1);
        bench.type("select");
        Bench.due("rows while typing", bench.x.rows(), 0);
        Bench.due("run", bench.x.run(), 1);
        bench.answers("select a from A", 3, 1, 3);
        bench.code("insert A 1,1", QueryTables.KEY);
        Bench.due("rows behind KEY", bench.x.rows(), 0);
        bench.answers("delete A where b=5", 2, 2, 2);
        bench.answers("delete A", 1, 1, 1);
        bench.answers("delete A", 0, 1, 0);
    }

    private static void width() {
        Bench.at("promise 7");
        Bench bench = Bench.with("create A 2", "insert A 1,2");
        Bench.due("width behind insert", bench.x.width(), 0);
        bench.done("select a from A");
        Bench.due("width", bench.x.width(), 1);
        bench.done("select a,b from A");
        Bench.due("width", bench.x.width(), 2);
        bench.done("select a,a,7 from A where a=2");
        Bench.due("width without rows", bench.x.width(), 3);
        bench.code("select a,a,b,b from A", QueryTables.SYNTAX);
        Bench.due("width behind SYNTAX", bench.x.width(), 0);
        String[] others = {"select a from A", "update A b=3", "select a from A", "index A b", "select a from A", "delete A"};
        for (int i = 0; i < others.length; i++) {
            bench.done(others[i]);
            Bench.due("width behind " + others[i], bench.x.width(), i % 2 == 0 ? 1 : 0);
        }
        bench.done("select a from A").code("select c from A", QueryTables.NAME);
        Bench.due("width behind NAME", bench.x.width(), 0);
    }

    private static void value() {
        Bench.at("promise 8");
        Bench bench = Bench.with("create A 2", "insert A 2,null", "insert A 1,-3");
        bench.done("select b,a,a*b from A").result(3, -3, 1, -3, NULL, 2, NULL);
        for (int wrong : WRONG) {
            Bench.due("value " + wrong + " 0", bench.x.value(wrong, 0), NOTHING);
            Bench.due("value 0 " + wrong, bench.x.value(0, wrong), NOTHING);
            Bench.due("value " + wrong + " twice", bench.x.value(wrong, wrong), NOTHING);
        }
        bench.type("select a from A").x.erase();
        Bench.due("value while typing", bench.x.value(0, 0), -3);
        Bench.due("run", bench.x.run(), 1);
        Bench.due("value behind SYNTAX", bench.x.value(0, 0), NOTHING);
        String[] others = {"insert A 3,3", "update A b=1", "index A b", "create B 1", "delete A where a=1"};
        for (String other : others) {
            bench.done("select 7 from A").result(1, bench.x.rows() == 2 ? new long[] {7, 7} : new long[] {7, 7, 7});
            bench.done(other);
            Bench.due("value behind " + other, bench.x.value(0, 0), NOTHING);
        }
        bench.done("select a from A limit 1").result(1, 2);
        Bench.due("value behind the limit", bench.x.value(1, 0), NOTHING);
    }

    private static void reads() {
        Bench.at("promise 9");
        Bench bench = Bench.with("create A 2", "insert A 1,1", "insert A 2,1", "insert A 3,2", "index A b");
        Bench.due("reads behind index", bench.x.reads(), 0);
        bench.answers("select a from A where b>0 limit 1", 1, 1, 3);
        bench.answers("select a from A where b=1", 2, 2, 2);
        bench.answers("select a from A where a=2", 1, 3, 1);
        bench.answers("update A b=2 where a=1", 1, 3, 1);
        bench.answers("delete A where b=2", 2, 2, 2);
        String[] others = {"create B 1", "insert B 1", "create C 2", "index C b"};
        for (String other : others) {
            bench.answers("select a from A", 1, 1, 1).answers(other, other.startsWith("insert") ? 1 : 0, 0, 0);
        }
        bench.answers("insert A 7,7", 1, 0, 0).answers("select a from A", 2, 1, 2);
        bench.code("update A a=1", QueryTables.KEY);
        Bench.due("reads behind KEY", bench.x.reads(), 0);
        bench.done("select a from A").code("select a from", QueryTables.SYNTAX);
        Bench.due("reads behind SYNTAX", bench.x.reads(), 0);
        bench.done("select a from A").code("delete A where c=1", QueryTables.NAME);
        Bench.due("reads behind NAME", bench.x.reads(), 0);
    }

    private static void plan() {
        Bench.at("promise 10");
        Bench bench = Bench.with("create A 2", "insert A 1,1", "insert A 2,1", "index A b", "create B 3", "insert B 1,2,3");
        Bench.due("plan behind insert", bench.x.plan(), 0);
        bench.answers("select a from A", 2, 1, 2);
        bench.answers("select a from A where b=1", 2, 2, 2);
        bench.answers("select a from A where b=1 and a=1", 1, 3, 1);
        bench.answers("select c from A,B", 2, 1 + 4 + 16, 3);
        bench.answers("select c from B,A", 2, 1 + 4, 3);
        bench.answers("select c from A,B where A.a=B.a", 1, 1 + 4 * 3 + 16, 2);
        bench.answers("select c from A,B where A.b=B.b", 0, 1 + 4 * 2 + 16, 1);
        bench.answers("select c from A,B where A.b=1 and B.a=1", 2, 2 + 4 * 3, 4);
        bench.code("update A a=1", QueryTables.KEY);
        Bench.due("plan behind KEY", bench.x.plan(), 0);
        bench.done("select a from A").code("select a from A,B", QueryTables.NAME);
        Bench.due("plan behind NAME", bench.x.plan(), 0);
        bench.done("select a from A").code("select", QueryTables.SYNTAX);
        Bench.due("plan behind SYNTAX", bench.x.plan(), 0);
    }

    private static void columns() {
        Bench.at("promise 11");
        Bench bench = Bench.with("create A 4", "create C 1");
        Bench.due("columns 0", bench.x.columns(0), 4);
        Bench.due("columns 1", bench.x.columns(1), 0);
        Bench.due("columns 2", bench.x.columns(2), 1);
        bench.code("create B 0", QueryTables.COUNT).code("create B 5", QueryTables.COUNT);
        Bench.due("columns 1 behind COUNT", bench.x.columns(1), 0);
        bench.code("create A 2", QueryTables.NAME);
        Bench.due("columns 0 behind NAME", bench.x.columns(0), 4);
        bench.done("create B 003");
        Bench.due("columns 1", bench.x.columns(1), 3);
        Bench.due("columns 3", bench.x.columns(3), 0);
        for (int wrong : WRONG) {
            Bench.due("columns " + wrong, bench.x.columns(wrong), 0);
        }
    }

    private static void size() {
        Bench.at("promise 12");
        Bench bench = Bench.with("create A 1", "create B 1", "insert B 1");
        Bench.due("size 0", bench.x.size(0), 0);
        Bench.due("size 1", bench.x.size(1), 1);
        Bench.due("size 2", bench.x.size(2), 0);
        Bench.due("size 3", bench.x.size(3), 0);
        for (int wrong : WRONG) {
            Bench.due("size " + wrong, bench.x.size(wrong), 0);
        }
        for (int k = 0; k < 20; k++) {
            bench.done("insertA" + k);
            Bench.due("size 0", bench.x.size(0), k + 1);
        }
        bench.code("insertA20", QueryTables.ROOM);
        Bench.due("size 0 when full", bench.x.size(0), 20);
        bench.done("deleteA where a>17");
        Bench.due("size 0 behind delete", bench.x.size(0), 18);
    }

    private static void indexed() {
        Bench.at("promise 13");
        Bench bench = Bench.with("create A 3", "create B 3", "index A c");
        boolean[] want = {false, false, true, false};
        for (int c = 0; c < 4; c++) {
            Bench.due("indexed 0 " + c, bench.x.indexed(0, c), want[c]);
            Bench.due("indexed 1 " + c, bench.x.indexed(1, c), false);
            Bench.due("indexed 2 " + c, bench.x.indexed(2, c), false);
            Bench.due("indexed 3 " + c, bench.x.indexed(3, c), false);
        }
        bench.code("index A d", QueryTables.NAME).code("index A a", QueryTables.NAME);
        Bench.due("indexed 0 3", bench.x.indexed(0, 3), false);
        Bench.due("indexed 0 0", bench.x.indexed(0, 0), false);
        bench.done("index A b");
        Bench.due("indexed 0 1", bench.x.indexed(0, 1), true);
        for (int wrong : WRONG) {
            Bench.due("indexed 0 " + wrong, bench.x.indexed(0, wrong), false);
            Bench.due("indexed " + wrong + " 2", bench.x.indexed(wrong, 2), false);
        }
    }

    private static void cell() {
        Bench.at("promise 14");
        Bench bench = Bench.with("create A 2", "insert A 5,1", "insert A -7,null", "insert A 0,3");
        bench.table(0, 2, -7, NULL, 0, 3, 5, 1);
        Bench.due("cell behind the last row", bench.x.cell(0, 3, 0), NOTHING);
        Bench.due("cell of column 2", bench.x.cell(0, 0, 2), NOTHING);
        Bench.due("cell of table 1", bench.x.cell(1, 0, 0), NOTHING);
        Bench.due("cell of table 3", bench.x.cell(3, 0, 0), NOTHING);
        for (int wrong : WRONG) {
            Bench.due("cell " + wrong + " 0 0", bench.x.cell(wrong, 0, 0), NOTHING);
            Bench.due("cell 0 " + wrong + " 0", bench.x.cell(0, wrong, 0), NOTHING);
            Bench.due("cell 0 0 " + wrong, bench.x.cell(0, 0, wrong), NOTHING);
        }
        bench.done("update A a=-a").table(0, 2, -5, 1, 0, 3, 7, NULL);
        bench.done("delete A where a=0").table(0, 2, -5, 1, 7, NULL);
        Bench.due("cell of a row gone", bench.x.cell(0, 2, 0), NOTHING);
        bench.done("insert A -999999999*2-147483650,-1").table(0, 2, Integer.MIN_VALUE, -1, -5, 1, 7, NULL);
    }

    private static void count() {
        Bench.at("promise 15");
        Bench bench = Bench.with("create A 2", "insert A 1,4", "insert A 2,null", "insert A 3,4", "insert A 4,null", "insert A 5,-4");
        Bench.due("count of 4", bench.x.count(0, 1, 4), 2);
        Bench.due("count of -4", bench.x.count(0, 1, -4), 1);
        Bench.due("count of NULL", bench.x.count(0, 1, NULL), 2);
        Bench.due("count of NOTHING", bench.x.count(0, 1, NOTHING), 0);
        Bench.due("count of a key", bench.x.count(0, 0, 3), 1);
        Bench.due("count of no key", bench.x.count(0, 0, 6), 0);
        Bench.due("count of NULL keys", bench.x.count(0, 0, NULL), 0);
        Bench.due("count of what is 4 as an int", bench.x.count(0, 1, 4 + (1L << 32)), 0);
        long[] far = {Long.MIN_VALUE, Long.MAX_VALUE, -NULL, NULL + 4, 0};
        for (long v : far) {
            Bench.due("count of " + v, bench.x.count(0, 1, v), 0);
        }
        Bench.due("count in column 2", bench.x.count(0, 2, 0), 0);
        Bench.due("count in table 1", bench.x.count(1, 0, 0), 0);
        for (int wrong : WRONG) {
            Bench.due("count in column " + wrong, bench.x.count(0, wrong, 4), 0);
            Bench.due("count in table " + wrong, bench.x.count(wrong, 1, 4), 0);
        }
        bench.done("delete A where b=4");
        Bench.due("count of 4 behind delete", bench.x.count(0, 1, 4), 0);
    }
}
