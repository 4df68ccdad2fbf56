/** Which code a run ends with when several are due, and that nothing changes then. */
public final class CodesTest {
    private static final int SYNTAX = QueryTables.SYNTAX;
    private static final int NAME = QueryTables.NAME;
    private static final int COUNT = QueryTables.COUNT;
    private static final int KEY = QueryTables.KEY;
    private static final int ROOM = QueryTables.ROOM;

    public static void main(String[] args) {
        names();
        firstDue();
        fullTable();
        fullResult();
        Bench.end();
    }

    private static void names() {
        Bench.at("names");
        Bench bench = Bench.with("create A 2", "insert A 1,2");
        bench.code("create A 2", NAME).code("index B b", NAME).code("insert B 1", NAME);
        bench.code("update B a=1", NAME).code("delete B", NAME).code("select a from B", NAME);
        bench.code("select A.a from A,B", NAME).code("select A.a from B,A", NAME);
        bench.code("select A.a from A,A", NAME).code("select 1 from A,A", NAME).code("select 1 from B,B", NAME);
        bench.code("index A a", NAME).code("index A c", NAME);
        bench.done("index A b").code("index A b", NAME);
        bench.code("update A c=1", NAME).code("update A b=c", NAME).code("update A b=1 where d=1", NAME);
        bench = Bench.with("create A 2", "insert A 1,2");
        bench.code("delete A where c null", NAME).code("select c from A", NAME).code("select a,a,(-d) from A", NAME);
        bench.code("select a from A where [not c=1]", NAME).code("select a from A order c", NAME);
        bench.code("select a from A where 1=2 and c=1", NAME).code("select a from A where a=a or B.a=1", NAME);
        bench.code("select a from A order C.a limit 0", NAME).code("select A.d from A", NAME);
        bench.table(0, 2, 1, 2);
        Bench.due("columns of B", bench.x.columns(1), 0);
    }

    private static void firstDue() {
        Bench.at("first due");
        Bench bench = Bench.with("create A 2", "insert A 1,2");
        bench.code("create A 9", NAME).code("create A 9 9", SYNTAX).code("create B 9", COUNT).code("create B 0", COUNT);
        bench.code("insert A 1,c,", SYNTAX).code("insert A a", NAME).code("insert A 1", COUNT).code("insert A null", COUNT);
        bench.code("insert A null,a", NAME).code("insert A 1,1,1", COUNT).code("insert A 1,1", KEY).code("insert C 1,1,1", NAME);
        bench.code("update A a=null where c=1", NAME).code("update A a=null", KEY).code("update A a=null where", SYNTAX);
        bench.code("select a,b,a,z from B", SYNTAX).code("select a,b,a,b from B", SYNTAX).code("index C", SYNTAX);
        bench.table(0, 2, 1, 2);
    }

    private static void fullTable() {
        Bench.at("full table");
        Bench bench = Bench.with("createA1");
        for (int k = 0; k < 20; k++) {
            bench.done("insertA" + k * 2);
        }
        bench.code("insertA1", ROOM).code("insertA4", KEY).code("insertA null", KEY).code("insertA1,1", COUNT).code("insertB1", NAME);
        Bench.due("size", bench.x.size(0), 20);
        Bench.due("count of 1", bench.x.count(0, 0, 1), 0);
        bench.answers("updateAa=a+2", 20, 1, 20);
        Bench.due("least key", bench.x.cell(0, 0, 0), 2);
        bench.done("deleteA where a=40").done("insertA1").code("insertA0", ROOM);
        Bench.due("least key", bench.x.cell(0, 0, 0), 1);
        Bench.due("greatest key", bench.x.cell(0, 19, 0), 38);
        Bench.due("behind it", bench.x.cell(0, 20, 0), QueryTables.NOTHING);
    }

    /** Ten rows by six and by seven: 60 found are a result, 61 and more are too many, whatever the limit. */
    private static void fullResult() {
        Bench.at("full result");
        Bench bench = Bench.with("createA1", "createB2");
        for (int k = 0; k < 10; k++) {
            bench.done("insertA" + k);
        }
        for (int k = 0; k < 7; k++) {
            bench.done("insertB" + k + "," + k);
        }
        String start = "select A.a,B.a from A,B ";
        bench.code(start + "limit 1", ROOM);
        Bench.due("rows", bench.x.rows(), 0);
        Bench.due("width", bench.x.width(), 0);
        Bench.due("reads", bench.x.reads(), 0);
        Bench.due("plan", bench.x.plan(), 0);
        Bench.due("value", bench.x.value(0, 0), QueryTables.NOTHING);
        bench.answers(start + "where b<6", 60, 21, 7 + 60);
        Bench.due("last value", bench.x.value(59, 1), 5);
        Bench.due("behind it", bench.x.value(60, 1), QueryTables.NOTHING);
        bench.code(start + "where b<6 or b=A.a", ROOM);
        bench.code(start + "order b desc limit 1", ROOM);
    }
}
