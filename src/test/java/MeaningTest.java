/** What E and C mean, and what statements do to tables and results. */
public final class MeaningTest {
    private static final long NULL = QueryTables.NULL;

    public static void main(String[] args) {
        reckoning();
        wrapping();
        comparing();
        threeTruths();
        columnNames();
        inserting();
        updating();
        deleting();
        ordering();
        pairs();
        Bench.end();
    }

    private static Bench one() {
        return Bench.with("create A 3", "insert A 1,7,null");
    }

    private static void is(String e, long want) {
        one().done("select " + e + " from A").result(1, want);
    }

    private static void reckoning() {
        Bench.at("reckoning");
        is("1+2*3", 7);
        is("(1+2)*3", 9);
        is("9-4-3", 2);
        is("9-(4-3)", 8);
        is("9-4+3", 8);
        is("2*3/4", 1);
        is("2/4*3", 0);
        is("100/5/2", 10);
        is("7/2", 3);
        is("-7/2", -3);
        is("7/-2", -3);
        is("-(7/2)", -3);
        is("2- -3", 5);
        is("2--3", 5);
        is("-b*-b", 49);
        is("-b-b", -14);
        is("b/0", NULL);
        is("0/0", NULL);
        is("b/(a-1)", NULL);
        is("0/b", 0);
        is("null", NULL);
        is("c", NULL);
        is("c+1", NULL);
        is("1-c", NULL);
        is("0*c", NULL);
        is("c/0", NULL);
        is("0/c", NULL);
        is("-c", NULL);
        is("-(b/0)", NULL);
        is("-0", 0);
        is("A.b+b", 14);
    }

    private static void wrapping() {
        Bench.at("wrapping");
        is("999999999+999999999+999999999", 999999999 * 3);
        is("999999999*999999999", 999999999 * 999999999);
        is("-999999999-999999999-999999999", -999999999 * 3);
        is("-999999999*2-147483650", Integer.MIN_VALUE);
        is("-(-999999999*2-147483650)", Integer.MIN_VALUE);
        is("(-999999999*2-147483650)/-1", Integer.MIN_VALUE);
        is("(-999999999*2-147483650)-1", Integer.MAX_VALUE);
        is("999999999*2+147483649+1", 2147483648L - 4294967296L);
        is("65536*65536", 0);
        is("1/(65536*65536)", NULL);
    }

    private static void holds(String c, boolean want) {
        Bench bench = one().done("select a from A where " + c);
        Bench.due("rows for " + c, bench.x.rows(), want ? 1 : 0);
    }

    private static void comparing() {
        Bench.at("comparing");
        holds("a=1", true);
        holds("a=2", false);
        holds("a<2", true);
        holds("a<1", false);
        holds("a>0", true);
        holds("a>1", false);
        holds("-5<3", true);
        holds("999999999*3<0", true);
        holds("-999999999>999999999", false);
        holds("c null", true);
        holds("a null", false);
        holds("a/0 null", true);
        holds("not a null", true);
        holds("not c null", false);
        holds("c=c", false);
        holds("c=null", false);
        holds("c<1", false);
        holds("1>c", false);
        holds("a+1=b-5", true);
    }

    private static final String[] TRUTHS = {"1=2", "c=1", "1=1"};

    /** Every pair of truths, each asked whether it is true, false or unknown. */
    private static void threeTruths() {
        Bench.at("three truths");
        for (int x = 0; x < 3; x++) {
            truthIs("not " + TRUTHS[x], 2 - x);
            truthIs("not[not " + TRUTHS[x] + "]", x);
            for (int y = 0; y < 3; y++) {
                truthIs(TRUTHS[x] + " and " + TRUTHS[y], Math.min(x, y));
                truthIs(TRUTHS[x] + " or " + TRUTHS[y], Math.max(x, y));
            }
        }
        holds("1=1 or 1=1 and 1=2", true);
        holds("[1=1 or 1=1]and 1=2", false);
        holds("not 1=2 and 1=2", false);
        holds("not[1=2 and 1=2]", true);
        holds("not 1=1 or 1=1", true);
        holds("1=2 and 1=1 or 1=1", true);
        holds("1=2 and[1=1 or 1=1]", false);
    }

    private static void truthIs(String c, int truth) {
        holds(c, truth == 2);
        holds("not[" + c + "]", truth == 0);
    }

    private static void columnNames() {
        Bench.at("column names");
        Bench bench = Bench.with("create A 2", "create B 3", "create C 3", "insert A 1,2", "insert B 3,4,5", "insert C 6,7,8");
        bench.done("select c,A.a,B.a from A,B").result(3, 5, 1, 3);
        bench.done("select c,A.b,B.b from B,A").result(3, 5, 2, 4);
        bench.done("select A.b from A").result(1, 2);
        bench.code("select a from A,B", QueryTables.NAME);
        bench.code("select c from C,B", QueryTables.NAME);
        bench.code("select d from A,B", QueryTables.NAME);
        bench.code("select A.c from A,B", QueryTables.NAME);
        bench.code("select C.c from A,B", QueryTables.NAME);
        bench.code("select B.a from A", QueryTables.NAME);
        bench.code("update A b=B.b", QueryTables.NAME);
        bench.code("delete A where B.a=1", QueryTables.NAME);
        bench.done("update B b=B.c+1 where B.a=3").table(1, 3, 3, 6, 5);
    }

    private static void inserting() {
        Bench.at("inserting");
        Bench bench = Bench.with("create A 4", "insert A 3,1,2,3", "insert A 1+1,-1,null,7/0", "insert A -9,0,0,0");
        bench.table(0, 4, -9, 0, 0, 0, 2, -1, NULL, NULL, 3, 1, 2, 3);
        bench.code("insert A 1,2,3", QueryTables.COUNT).code("insert A 1,2,3,4,5", QueryTables.COUNT);
        bench.code("insert A null,2,3,4", QueryTables.KEY).code("insert A 1/0,2,3,4", QueryTables.KEY);
        bench.code("insert A 4-1,2,3,4", QueryTables.KEY).code("insert A 1,2,3,a", QueryTables.NAME);
        bench.code("insert A 1,2,3,A.a", QueryTables.NAME).code("insert A 1,a", QueryTables.NAME);
        bench.code("insert A 1,2,3,-(b)", QueryTables.NAME);
        bench.table(0, 4, -9, 0, 0, 0, 2, -1, NULL, NULL, 3, 1, 2, 3);
    }

    private static void updating() {
        Bench.at("updating");
        Bench bench = Bench.with("create A 2", "insert A 1,10", "insert A 2,20", "insert A 3,30");
        bench.done("update A a=a+1").table(0, 2, 2, 10, 3, 20, 4, 30);
        bench.done("update A a=6-a").table(0, 2, 2, 30, 3, 20, 4, 10);
        bench.code("update A a=4 where a=3", QueryTables.KEY);
        bench.code("update A a=7", QueryTables.KEY);
        bench.code("update A a=null where a=3", QueryTables.KEY);
        bench.code("update A a=a/(a-3)", QueryTables.KEY);
        bench.table(0, 2, 2, 30, 3, 20, 4, 10);
        bench.done("update A a=null where a=9").done("update A a=7 where a=3 or a=9").table(0, 2, 2, 30, 4, 10, 7, 20);
        bench.done("update A a=a").table(0, 2, 2, 30, 4, 10, 7, 20);
        bench.done("update A b=a*b where b<25").table(0, 2, 2, 30, 4, 40, 7, 140);
        bench.done("update A b=null where a=4").done("update A b=b+1").table(0, 2, 2, 31, 4, NULL, 7, 141);
        bench.code("update A c=1", QueryTables.NAME);
        bench.code("update A a=9-a where a<5", QueryTables.KEY);
        bench.done("update A a=8-a where a<5").table(0, 2, 4, NULL, 6, 31, 7, 141);
    }

    private static void deleting() {
        Bench.at("deleting");
        Bench bench = Bench.with("create A 2", "insert A 1,1", "insert A 2,null", "insert A 3,2", "insert A 4,1", "index A b");
        bench.done("delete A where b=1").table(0, 2, 2, NULL, 3, 2);
        bench.done("delete A where b=null").table(0, 2, 2, NULL, 3, 2);
        bench.done("delete A where not b=2").table(0, 2, 2, NULL, 3, 2);
        bench.done("delete A where b null").table(0, 2, 3, 2);
        bench.done("delete A").table(0, 2);
        Bench.due("the index stays", bench.x.indexed(0, 1), true);
        bench.done("insert A 3,3").table(0, 2, 3, 3);
    }

    private static void ordering() {
        Bench.at("ordering");
        Bench bench = Bench.with("create A 2", "insert A 4,1", "insert A 3,null", "insert A 2,-5", "insert A 1,1", "insert A 0,null");
        bench.done("select a from A").result(1, 0, 1, 2, 3, 4);
        bench.done("select a from A order b").result(1, 0, 3, 2, 1, 4);
        bench.done("select a from A order b desc").result(1, 1, 4, 2, 0, 3);
        bench.done("select a from A order -a").result(1, 4, 3, 2, 1, 0);
        bench.done("select a from A order a desc limit 2").result(1, 4, 3);
        bench.done("select a from A order b limit 3").result(1, 0, 3, 2);
        bench.done("select a from A order 7 desc").result(1, 0, 1, 2, 3, 4);
        bench.done("select a from A order null").result(1, 0, 1, 2, 3, 4);
        bench.done("select a,b from A where b<9 order b desc limit 2").result(2, 1, 1, 4, 1);
    }

    private static void pairs() {
        Bench.at("pairs");
        Bench bench = Bench.with("create A 2", "create B 2", "insert A 2,1", "insert A 1,2", "insert B 4,1", "insert B 3,2");
        bench.done("select A.a,B.a from A,B").result(2, 1, 3, 1, 4, 2, 3, 2, 4);
        bench.done("select A.a,B.a from B,A").result(2, 1, 3, 2, 3, 1, 4, 2, 4);
        bench.done("select A.a,B.a from A,B where A.b=B.b").result(2, 1, 3, 2, 4);
        bench.done("select A.a,B.a from A,B order B.a desc").result(2, 1, 4, 2, 4, 1, 3, 2, 3);
        bench.done("delete B").done("select A.a from A,B").result(1);
    }
}
