/** Values, tables, columns, rows, keys and indexes: each sentence of "Terms" on them at its bound and at both sides. */
public final class BoundsOfTablesTest {
    private static final int SYNTAX = QueryTables.SYNTAX;
    private static final int NAME = QueryTables.NAME;
    private static final int COUNT = QueryTables.COUNT;
    private static final int KEY = QueryTables.KEY;
    private static final int ROOM = QueryTables.ROOM;
    private static final long NULL = QueryTables.NULL;
    private static final int MOST = Integer.MAX_VALUE;
    private static final int LEAST = Integer.MIN_VALUE;

    public static void main(String[] args) {
        valuesAreInts();
        valuesAreNull();
        threeTables();
        tablesAreApart();
        oneToFourColumns();
        columnsInOrder();
        twentyRows();
        twentyRowsEach();
        keyIsNotNull();
        keyIsOnce();
        keyIsOnceInItsTable();
        keyIsColumnA();
        otherColumnsMayBeIndexed();
        indexIsOfItsTable();
        Bench.end();
    }

    private static void valuesAreInts() {
        Bench.at("VALUES are ints");
        Bench bench = Bench.with("create A 2", "insert A 0," + Bench.MOST + "-1", "insert A 1," + Bench.MOST,
                "insert A 2," + Bench.MOST + "+1", "insert A 3," + Bench.LEAST + "+1", "insert A 4," + Bench.LEAST,
                "insert A 5," + Bench.LEAST + "-1");
        bench.table(0, 2, 0, MOST - 1, 1, MOST, 2, LEAST, 3, LEAST + 1, 4, LEAST, 5, MOST);
        bench = Bench.with("create A 1", "insert A " + Bench.MOST, "insert A " + Bench.LEAST, "insert A 0");
        bench.table(0, 1, LEAST, 0, MOST);
        bench.done("select a from A").result(1, LEAST, 0, MOST);
        bench.code("insert A " + Bench.MOST + "+1", KEY).code("insert A " + Bench.LEAST + "-1", KEY);
    }

    private static void valuesAreNull() {
        Bench.at("VALUES are .. NULL");
        Bench bench = Bench.with("create A 4", "insert A 0,null,0,1/0");
        bench.table(0, 4, 0, NULL, 0, NULL);
        bench.done("select b,c from A").result(2, NULL, 0);
        bench.done("update A c=null").done("update A b=0").table(0, 4, 0, 0, NULL, NULL);
    }

    private static void threeTables() {
        Bench.at("at most three TABLES A, B, C (numbers 0, 1, 2)");
        Bench bench = Bench.with("create C 3", "create A 1", "create B 2");
        Bench.due("columns -1", bench.x.columns(-1), 0);
        Bench.due("columns 0", bench.x.columns(0), 1);
        Bench.due("columns 1", bench.x.columns(1), 2);
        Bench.due("columns 2", bench.x.columns(2), 3);
        Bench.due("columns 3", bench.x.columns(3), 0);
        bench.codes(SYNTAX, "create D 1", "create @ 1", "create Z 1", "insert D 1", "select a from D", "delete D");
        bench.codes(NAME, "create A 1", "create B 1", "create C 1");
        Bench.due("columns 3 still", bench.x.columns(3), 0);
    }

    private static void tablesAreApart() {
        Bench.at("TABLES A, B, C: each has its own rows");
        Bench bench = Bench.with("create A 1", "create B 1", "create C 1", "insert A 1", "insert B 2", "insert C 3", "insert C 4");
        bench.table(0, 1, 1).table(1, 1, 2).table(2, 1, 3, 4);
        bench.done("delete B").done("update C a=a+1").table(0, 1, 1).table(1, 1).table(2, 1, 4, 5);
    }

    private static void oneToFourColumns() {
        Bench.at("each with 1 to 4 COLUMNS");
        for (int amount = 0; amount <= 6; amount++) {
            boolean fits = amount >= 1 && amount <= 4;
            Bench bench = new Bench().code("create A " + amount, fits ? 0 : COUNT);
            Bench.due("columns of " + amount, bench.x.columns(0), fits ? amount : 0);
            bench.code("select 1 from A", fits ? 0 : NAME);
        }
        new Bench().code("create A 999999999", COUNT).code("create A 10", COUNT).code("create A 04", 0).table(0, 4);
    }

    private static void columnsInOrder() {
        Bench.at("called a, b, c, d in this order (numbers 0 .. 3)");
        String[] rows = {"5", "5,6", "5,6,7", "5,6,7,8"};
        for (int amount = 1; amount <= 4; amount++) {
            Bench bench = Bench.with("create A " + amount, "insert A " + rows[amount - 1]);
            for (int c = 0; c < 4; c++) {
                char name = (char) ('a' + c);
                boolean there = c < amount;
                bench.code("select " + name + " from A", there ? 0 : NAME);
                Bench.due("value of " + name, bench.x.value(0, 0), there ? 5 + c : QueryTables.NOTHING);
                Bench.due("cell of " + name, bench.x.cell(0, 0, c), there ? 5 + c : QueryTables.NOTHING);
            }
            bench.code("select e from A", SYNTAX);
            Bench.due("cell -1", bench.x.cell(0, 0, -1), QueryTables.NOTHING);
            Bench.due("cell 4", bench.x.cell(0, 0, 4), QueryTables.NOTHING);
        }
    }

    private static void twentyRows() {
        Bench.at("at most 20 ROWS");
        Bench bench = Bench.filled(19);
        Bench.due("size", bench.x.size(0), 19);
        bench.done("insertA50");
        Bench.due("size", bench.x.size(0), 20);
        bench.code("insertA60", ROOM);
        Bench.due("size", bench.x.size(0), 20);
        Bench.due("the last key", bench.x.cell(0, 19, 0), 50);
        Bench.due("behind the last", bench.x.cell(0, 20, 0), QueryTables.NOTHING);
        bench.done("deleteAwhere a=0").done("insertA60").code("insertA70", ROOM);
        Bench.due("the last key", bench.x.cell(0, 19, 0), 60);
        Bench.due("the first key", bench.x.cell(0, 0, 0), 1);
    }

    private static void twentyRowsEach() {
        Bench.at("each with .. at most 20 ROWS");
        Bench bench = Bench.filled(20).done("createB1");
        for (int k = 0; k < 20; k++) {
            bench.done("insertB" + k);
        }
        bench.code("insertB50", ROOM).code("insertA50", ROOM);
        Bench.due("size 0", bench.x.size(0), 20);
        Bench.due("size 1", bench.x.size(1), 20);
    }

    private static void keyIsNotNull() {
        Bench.at("Column a is the KEY: it is not NULL");
        Bench bench = Bench.with("create A 2", "insert A 0,0");
        bench.codes(KEY, "insert A null,1", "insert A 1/0,1", "insert A 1+null,1", "insert A -(null),1");
        bench.codes(KEY, "update A a=null", "update A a=a/0", "update A a=b/b");
        bench.table(0, 2, 0, 0);
        bench.done("insert A 1,null").done("update A b=null").table(0, 2, 0, NULL, 1, NULL);
        Bench.due("NULL keys", bench.x.count(0, 0, NULL), 0);
    }

    private static void keyIsOnce() {
        Bench.at("no two rows of a table have the same");
        Bench bench = Bench.with("create A 2", "insert A 5,1");
        bench.done("insert A 4,1").done("insert A 6,1").done("insert A -5,1");
        bench.codes(KEY, "insert A 5,1", "insert A 5,2", "insert A 2+3,1", "insert A --5,1", "insert A -5,1");
        bench.codes(KEY, "update A a=5 where a=4", "update A a=5", "update A a=a+1 where a=4", "update A a=a*a");
        bench.table(0, 2, -5, 1, 4, 1, 5, 1, 6, 1);
        bench.done("delete A where a=5").done("insert A 5,9").table(0, 2, -5, 1, 4, 1, 5, 9, 6, 1);
    }

    private static void keyIsOnceInItsTable() {
        Bench.at("no two rows OF A TABLE have the same");
        Bench bench = Bench.with("create A 1", "create B 1", "create C 1", "insert A 1", "insert B 1", "insert C 1", "insert B 2");
        bench.done("update A a=2").table(0, 1, 2).table(1, 1, 1, 2).table(2, 1, 1);
        bench.codes(KEY, "insert A 2", "insert B 1", "insert C 1", "update B a=2 where a=1");
    }

    private static void keyIsColumnA() {
        Bench.at("Column a, and no other, is the KEY");
        Bench bench = Bench.with("create A 4", "insert A 1,7,7,7", "insert A 2,7,7,7", "insert A 7,1,null,null");
        bench.done("update A b=7").done("update A c=null").done("update A d=a").code("update A a=d+0*b+1 where a=1", KEY);
        bench.table(0, 4, 1, 7, NULL, 1, 2, 7, NULL, 2, 7, 7, NULL, 7);
    }

    private static void otherColumnsMayBeIndexed() {
        Bench.at("Each other column may have an INDEX");
        for (int amount = 1; amount <= 4; amount++) {
            Bench bench = Bench.with("create A " + amount);
            for (int c = 0; c < 4; c++) {
                boolean may = c > 0 && c < amount;
                Bench.due("indexed before " + c, bench.x.indexed(0, c), false);
                bench.code("index A " + (char) ('a' + c), may ? 0 : NAME);
                Bench.due("indexed " + c, bench.x.indexed(0, c), may);
                bench.code("index A " + (char) ('a' + c), NAME);
                Bench.due("indexed still " + c, bench.x.indexed(0, c), may);
            }
            bench.code("index A e", SYNTAX);
            for (int c = 1; c < amount; c++) {
                Bench.due("indexed at the end " + c, bench.x.indexed(0, c), true);
            }
        }
    }

    private static void indexIsOfItsTable() {
        Bench.at("an INDEX of a table is none of another");
        Bench bench = Bench.with("create A 2", "create B 2", "create C 2", "index B b");
        Bench.due("indexed 0 1", bench.x.indexed(0, 1), false);
        Bench.due("indexed 1 1", bench.x.indexed(1, 1), true);
        Bench.due("indexed 2 1", bench.x.indexed(2, 1), false);
        bench.done("index A b").code("index B b", NAME).done("index C b");
        Bench.due("indexed 0 1", bench.x.indexed(0, 1), true);
        Bench.due("indexed 2 1", bench.x.indexed(2, 1), true);
    }
}
