/** What statements do, which rows are found, and the result, its order and limit, at their bounds and at both sides. */
public final class BoundsOfResultsTest {
    private static final long NULL = QueryTables.NULL;
    private static final int MOST = Integer.MAX_VALUE;
    private static final int LEAST = Integer.MIN_VALUE;

    public static void main(String[] args) {
        createdWithoutRows();
        insertedValues();
        updatedRowsFound();
        updatedByTheRowBefore();
        updatedAllAtOnce();
        updatedColumnOnly();
        deletedRowsFound();
        deletedAtTheEnds();
        deletedThenInserted();
        foundIfTrue();
        foundWithoutWhere();
        foundPairs();
        foundPairsOfNone();
        resultOfEachFound();
        nullFirst();
        leastFirst();
        descIsTheOtherWay();
        alikeByTheFirstKey();
        alikeByTheSecondKey();
        withoutOrderByKeys();
        orderIsNotByTheLooks();
        limitAroundTheRows();
        limitOfTheOrder();
        limitZero();
        Bench.end();
    }

    private static void createdWithoutRows() {
        Bench.at("create: a table without rows");
        Bench bench = Bench.with("create A 4").table(0, 4);
        Bench.due("first cell", bench.x.cell(0, 0, 0), QueryTables.NOTHING);
        bench.answers("select a from A", 0, 1, 0).result(1);
        bench.answers("update A b=1", 0, 1, 0).answers("delete A", 0, 1, 0);
        for (int c = 0; c < 4; c++) {
            Bench.due("indexed " + c, bench.x.indexed(0, c), false);
            Bench.due("NULLs in " + c, bench.x.count(0, c, NULL), 0);
            Bench.due("zeros in " + c, bench.x.count(0, c, 0), 0);
        }
        bench.done("insert A 1,2,3,4").table(0, 4, 1, 2, 3, 4);
    }

    private static void insertedValues() {
        Bench.at("insert: a row of the values of E");
        Bench bench = Bench.with("create A 1", "insert A 2+3*4").table(0, 1, 14);
        bench.done("create B 4").done("insert B 9-8,-7,null,6/5").table(1, 4, 1, -7, NULL, 1);
        bench.done("insert B 0,0,0,0").table(1, 4, 0, 0, 0, 0, 1, -7, NULL, 1);
        bench.done("insert B -1,-1,-1,-1").table(1, 4, -1, -1, -1, -1, 0, 0, 0, 0, 1, -7, NULL, 1);
        bench.table(0, 1, 14);
    }

    private static Bench four() {
        return Bench.with("create A 3", "insert A 1,5,null", "insert A 2,6,0", "insert A 3,7,1", "insert A 4,null,2");
    }

    private static void updatedRowsFound() {
        Bench.at("update: in the rows FOUND the column becomes the value of E");
        four().answers("update A c=9 where b<6", 1, 1, 4).table(0, 3, 1, 5, 9, 2, 6, 0, 3, 7, 1, 4, NULL, 2);
        four().answers("update A c=9 where b=6", 1, 1, 4).table(0, 3, 1, 5, NULL, 2, 6, 9, 3, 7, 1, 4, NULL, 2);
        four().answers("update A c=9 where b>6", 1, 1, 4).table(0, 3, 1, 5, NULL, 2, 6, 0, 3, 7, 9, 4, NULL, 2);
        four().answers("update A c=9 where not b=6", 2, 1, 4).table(0, 3, 1, 5, 9, 2, 6, 0, 3, 7, 9, 4, NULL, 2);
        four().answers("update A c=9 where b null", 1, 1, 4).table(0, 3, 1, 5, NULL, 2, 6, 0, 3, 7, 1, 4, NULL, 9);
        four().answers("update A c=9 where b=8", 0, 1, 4).table(0, 3, 1, 5, NULL, 2, 6, 0, 3, 7, 1, 4, NULL, 2);
        four().answers("update A c=9", 4, 1, 4).table(0, 3, 1, 5, 9, 2, 6, 9, 3, 7, 9, 4, NULL, 9);
        four().answers("update A c=null", 4, 1, 4).table(0, 3, 1, 5, NULL, 2, 6, NULL, 3, 7, NULL, 4, NULL, NULL);
    }

    private static void updatedByTheRowBefore() {
        Bench.at("update: the value of E for the row as it was before");
        four().done("update A b=b+1 where b<7").table(0, 3, 1, 6, NULL, 2, 7, 0, 3, 7, 1, 4, NULL, 2);
        four().done("update A b=a*b+c").table(0, 3, 1, NULL, NULL, 2, 12, 0, 3, 22, 1, 4, NULL, 2);
        four().done("update A a=a*a").table(0, 3, 1, 5, NULL, 4, 6, 0, 9, 7, 1, 16, NULL, 2);
        four().done("update A c=c/(a-2)").table(0, 3, 1, 5, NULL, 2, 6, NULL, 3, 7, 1, 4, NULL, 1);
    }

    private static void updatedAllAtOnce() {
        Bench.at("update: all at once");
        four().done("update A a=a+1").table(0, 3, 2, 5, NULL, 3, 6, 0, 4, 7, 1, 5, NULL, 2);
        four().done("update A a=a-1").table(0, 3, 0, 5, NULL, 1, 6, 0, 2, 7, 1, 3, NULL, 2);
        four().done("update A a=5-a").table(0, 3, 1, NULL, 2, 2, 7, 1, 3, 6, 0, 4, 5, NULL);
        // A row that is changed is not found a second time, wherever its key leads it.
        four().answers("update A a=a+2 where a>0", 4, 1, 4).table(0, 3, 3, 5, NULL, 4, 6, 0, 5, 7, 1, 6, NULL, 2);
        four().done("index A b").answers("update A b=6 where b=5", 1, 2, 1).answers("update A b=b+1 where b=6", 2, 2, 2)
                .table(0, 3, 1, 7, NULL, 2, 7, 0, 3, 7, 1, 4, NULL, 2);
    }

    private static void updatedColumnOnly() {
        Bench.at("update: the column, and no other, becomes the value");
        four().done("update A b=0").table(0, 3, 1, 0, NULL, 2, 0, 0, 3, 0, 1, 4, 0, 2);
        four().done("update A a=9 where a=1").table(0, 3, 2, 6, 0, 3, 7, 1, 4, NULL, 2, 9, 5, NULL);
        Bench bench = four().done("create B 3").done("insert B 1,5,null").done("update A b=0").table(1, 3, 1, 5, NULL);
        bench.done("update B b=0").table(1, 3, 1, 0, NULL).table(0, 3, 1, 0, NULL, 2, 0, 0, 3, 0, 1, 4, 0, 2);
    }

    private static void deletedRowsFound() {
        Bench.at("delete: the rows found go");
        four().answers("delete A where b<6", 1, 1, 4).table(0, 3, 2, 6, 0, 3, 7, 1, 4, NULL, 2);
        four().answers("delete A where b>6", 1, 1, 4).table(0, 3, 1, 5, NULL, 2, 6, 0, 4, NULL, 2);
        four().answers("delete A where not b=6", 2, 1, 4).table(0, 3, 2, 6, 0, 4, NULL, 2);
        four().answers("delete A where b=9", 0, 1, 4).table(0, 3, 1, 5, NULL, 2, 6, 0, 3, 7, 1, 4, NULL, 2);
        four().answers("delete A where b null or c null", 2, 1, 4).table(0, 3, 2, 6, 0, 3, 7, 1);
        four().answers("delete A", 4, 1, 4).table(0, 3).answers("delete A", 0, 1, 0).table(0, 3);
    }

    private static void deletedAtTheEnds() {
        Bench.at("delete: the first, one in the midst, the last row");
        four().answers("delete A where a=1", 1, 3, 1).table(0, 3, 2, 6, 0, 3, 7, 1, 4, NULL, 2);
        four().answers("delete A where a=2", 1, 3, 1).table(0, 3, 1, 5, NULL, 3, 7, 1, 4, NULL, 2);
        four().answers("delete A where a=4", 1, 3, 1).table(0, 3, 1, 5, NULL, 2, 6, 0, 3, 7, 1);
        four().answers("delete A where a=0", 0, 3, 0).answers("delete A where a=5", 0, 3, 0).answers("delete A where a<5", 4, 1, 4).table(0, 3);
        four().answers("delete A where a=1 or a=4", 2, 1, 4).table(0, 3, 2, 6, 0, 3, 7, 1);
        four().answers("delete A where a=1 or a=3", 2, 1, 4).table(0, 3, 2, 6, 0, 4, NULL, 2);
    }

    private static void deletedThenInserted() {
        Bench.at("a table whose rows went stays, with its columns and indexes");
        Bench bench = four().done("index A b").done("index A c").done("delete A");
        Bench.due("columns", bench.x.columns(0), 3);
        Bench.due("indexed b", bench.x.indexed(0, 1), true);
        Bench.due("indexed c", bench.x.indexed(0, 2), true);
        bench.code("create A 3", QueryTables.NAME).done("insert A 3,null,null").table(0, 3, 3, NULL, NULL);
    }

    private static void foundIfTrue() {
        Bench.at("A row is FOUND if C is true for it");
        Bench bench = four();
        bench.done("select a from A where b>5").result(1, 2, 3);
        bench.done("select a from A where not b>5").result(1, 1);
        bench.done("select a from A where b>5 or not b>5").result(1, 1, 2, 3);
        bench.done("select a from A where b=null").result(1);
        bench.done("select a from A where not b=null").result(1);
        bench.done("select a from A where c null").result(1, 1);
        bench.done("select a from A where not c null").result(1, 2, 3, 4);
        bench = four();
        bench.done("select a from A where 1=1").result(1, 1, 2, 3, 4);
        bench.done("select a from A where 1=2").result(1);
        bench.done("select a from A where null=null").result(1);
        bench.done("delete A where b=null").done("update A c=9 where c=null").table(0, 3, 1, 5, NULL, 2, 6, 0, 3, 7, 1, 4, NULL, 2);
    }

    private static void foundWithoutWhere() {
        Bench.at("FOUND .. (all, without where)");
        four().done("select a from A").result(1, 1, 2, 3, 4);
        four().answers("update A b=1", 4, 1, 4).answers("delete A", 4, 1, 4);
    }

    private static Bench pairs() {
        return Bench.with("create A 2", "create B 3", "insert A 1,5", "insert A 2,null", "insert B 1,5,7", "insert B 2,6,null", "insert B 3,5,9");
    }

    private static void foundPairs() {
        Bench.at("with two tables a pair of rows is FOUND if C is true for it");
        Bench bench = pairs();
        bench.done("select A.a,B.a from A,B").result(2, 1, 1, 1, 2, 1, 3, 2, 1, 2, 2, 2, 3);
        bench.done("select A.a,B.a from A,B where A.b=B.b").result(2, 1, 1, 1, 3);
        bench.done("select A.a,B.a from A,B where not A.b=B.b").result(2, 1, 2);
        bench.done("select A.a,B.a from A,B where A.b null and c null").result(2, 2, 2);
        bench.done("select A.a,B.a from A,B where A.a=B.a or c>8").result(2, 1, 1, 1, 3, 2, 2, 2, 3);
        bench.done("select A.a,B.a from A,B where 1=2").result(2);
    }

    private static void foundPairsOfNone() {
        Bench.at("there is no pair where one table has no rows");
        pairs().done("delete A").done("select B.a from A,B").result(1).done("select B.a from B,A").result(1);
        pairs().done("delete B").done("select A.a from A,B").result(1).done("select A.a from B,A").result(1);
        pairs().done("delete B").done("delete A").done("select c from A,B").result(1);
    }

    private static void resultOfEachFound() {
        Bench.at("a RESULT: for each found one the values of its E");
        Bench bench = four();
        bench.done("select b*2,c,a from A").result(3, 10, NULL, 1, 12, 0, 2, 14, 1, 3, NULL, 2, 4);
        bench.done("select 7 from A").result(1, 7, 7, 7, 7);
        bench.done("select null,a from A where a>2").result(2, NULL, 3, NULL, 4);
        bench.done("select a,a,a from A where a=3").result(3, 3, 3, 3);
        pairs().done("select A.b+B.b from A,B").result(1, 10, 11, 10, NULL, NULL, NULL);
    }

    private static Bench ends() {
        return Bench.with("create A 2", "insert A 1,0", "insert A 2,null", "insert A 3," + Bench.MOST, "insert A 4," + Bench.LEAST,
                "insert A 5,-1", "insert A 6,null", "insert A 7,1");
    }

    private static void nullFirst() {
        Bench.at("NULL first");
        ends().done("select a from A order b limit 3").result(1, 2, 6, 4);
        ends().done("select a from A where a>1 order b").result(1, 2, 6, 4, 5, 7, 3);
        ends().done("select a from A order 1/(a-4) limit 1").result(1, 4);
    }

    private static void leastFirst() {
        Bench.at("then the least first");
        ends().done("select b,a from A order b").result(2, NULL, 2, NULL, 6, LEAST, 4, -1, 5, 0, 1, 1, 7, MOST, 3);
        ends().done("select a from A order -a").result(1, 7, 6, 5, 4, 3, 2, 1);
        ends().done("select a from A where a<4 order 5-a").result(1, 3, 2, 1);
    }

    private static void descIsTheOtherWay() {
        Bench.at("with desc the other way round, NULL last");
        ends().done("select a from A order b desc").result(1, 3, 7, 1, 5, 4, 2, 6);
        ends().done("select a from A order a desc").result(1, 7, 6, 5, 4, 3, 2, 1);
        ends().done("select a from A order b desc limit 1").result(1, 3);
    }

    private static void alikeByTheFirstKey() {
        Bench.at("those alike in it by the key of the row of the first table");
        Bench bench = Bench.with("create A 2", "insert A 3,1", "insert A -1,2", "insert A 2,1", "insert A 0,2", "insert A 1,null");
        bench.done("select a from A order b").result(1, 1, 2, 3, -1, 0);
        bench.done("select a from A order b desc").result(1, -1, 0, 2, 3, 1);
        bench.done("select a from A order 1").result(1, -1, 0, 1, 2, 3);
        bench.done("select a from A order 1 desc").result(1, -1, 0, 1, 2, 3);
        bench.done("select a from A order null desc").result(1, -1, 0, 1, 2, 3);
        bench = Bench.with("create A 1", "insert A " + Bench.MOST, "insert A " + Bench.LEAST, "insert A 0");
        bench.done("select a from A order 1").result(1, LEAST, 0, MOST);
    }

    private static void alikeByTheSecondKey() {
        Bench.at("then by that of the second");
        Bench bench = pairs();
        bench.done("select A.a,B.a from A,B order B.b").result(2, 1, 1, 1, 3, 2, 1, 2, 3, 1, 2, 2, 2);
        bench.done("select A.a,B.a from B,A order B.b").result(2, 1, 1, 2, 1, 1, 3, 2, 3, 1, 2, 2, 2);
        bench.done("select A.a,B.a from A,B order A.b desc").result(2, 1, 1, 1, 2, 1, 3, 2, 1, 2, 2, 2, 3);
        bench.done("select A.a,B.a from B,A order A.b").result(2, 2, 1, 2, 2, 2, 3, 1, 1, 1, 2, 1, 3);
        bench.done("select A.a,B.a from B,A order 1 desc").result(2, 1, 1, 2, 1, 1, 2, 2, 2, 1, 3, 2, 3);
    }

    /** The plan fetches in another order here: the result keeps that of the statement. */
    private static void withoutOrderByKeys() {
        Bench.at("or all without order, by the key of the row of the first table that the statement names");
        Bench bench = pairs();
        bench.answers("select A.a,B.a from B,A", 6, 1 + 4 + 16, 2 + 6).result(2, 1, 1, 2, 1, 1, 2, 2, 2, 1, 3, 2, 3);
        bench.answers("select A.a,B.a from A,B", 6, 1 + 4, 2 + 6).result(2, 1, 1, 1, 2, 1, 3, 2, 1, 2, 2, 2, 3);
        bench.answers("select A.a,B.a from A,B where B.a=2", 2, 3 + 4 + 16, 1 + 2).result(2, 1, 2, 2, 2);
        bench.answers("select A.a,B.a from B,A where A.a=2", 3, 3 + 4 + 16, 1 + 3).result(2, 2, 1, 2, 2, 2, 3);
        bench = Bench.with("create A 2", "insert A 9,1", "insert A -9,1", "insert A 0,1", "index A b");
        bench.answers("select a from A where b=1", 3, 2, 3).result(1, -9, 0, 9);
    }

    private static void orderIsNotByTheLooks() {
        Bench.at("the order of the E behind order, which need not be told");
        four().done("select c from A order -b").result(1, 2, 1, 0, NULL);
        four().done("select b from A order c desc").result(1, NULL, 7, 6, 5);
        pairs().done("select A.a,B.a from A,B order A.a*B.a").result(2, 1, 1, 1, 2, 2, 1, 1, 3, 2, 2, 2, 3);
    }

    private static void limitAroundTheRows() {
        Bench.at("with limit only the first ones, as many as its number says");
        long[] keys = {1, 2, 3, 4};
        for (int limit = 0; limit <= 6; limit++) {
            long[] want = java.util.Arrays.copyOf(keys, Math.min(limit, 4));
            four().done("select a from A limit " + limit).result(1, want);
        }
        four().done("select a from A limit 999999999").result(1, keys);
        four().done("select a from A where a>2 limit 1").result(1, 3).done("select a from A where a>4 limit 1").result(1);
        pairs().done("select A.a,B.a from A,B limit 4").result(2, 1, 1, 1, 2, 1, 3, 2, 1);
    }

    private static void limitOfTheOrder() {
        Bench.at("limit takes the first ones of the order");
        four().done("select a from A order b limit 1").result(1, 4).done("select a from A order b desc limit 1").result(1, 3);
        four().done("select a from A order a desc limit 3").result(1, 4, 3, 2);
        pairs().done("select A.a,B.a from B,A limit 2").result(2, 1, 1, 2, 1).done("select c from A,B order c desc limit 1").result(1, 9);
    }

    private static void limitZero() {
        Bench.at("limit 0: a result without rows");
        four().answers("select a,b from A limit 0", 0, 1, 4).result(2);
        four().answers("select a,b from A where a=1 limit 0", 0, 3, 1).result(2);
    }
}
