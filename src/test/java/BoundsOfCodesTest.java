/** Each reason of each code with the case beside it that is none, and which of two codes comes first. */
public final class BoundsOfCodesTest {
    private static final int SYNTAX = QueryTables.SYNTAX;
    private static final int NAME = QueryTables.NAME;
    private static final int COUNT = QueryTables.COUNT;
    private static final int KEY = QueryTables.KEY;
    private static final int ROOM = QueryTables.ROOM;
    private static final long NULL = QueryTables.NULL;

    public static void main(String[] args) {
        noStatement();
        tableNotThere();
        tableThereForCreate();
        tableNamedTwice();
        columnNotThere();
        columnNotThereInSelect();
        columnOfBoth();
        tableOfNone();
        columnInInsert();
        columnOfIndex();
        numberOfCreate();
        numberOfInsert();
        keyPutInNull();
        keyPutInThere();
        keyChangedNull();
        keyChangedToAnothers();
        keyOfAnotherThen();
        keyOfNoRowFound();
        keyOfOtherColumns();
        roomOfInsert();
        roomOfSelect();
        roomBeforeLimit();
        roomOfSelectOnly();
        syntaxFirst();
        nameBeforeCount();
        nameBeforeKeyAndRoom();
        countBeforeKeyAndRoom();
        keyBeforeRoom();
        nothingChanges();
        nothingChangesWhenFull();
        doneOtherwise();
        Bench.end();
    }

    private static Bench two() {
        return Bench.with("create A 2", "insert A 1,5", "create B 3", "insert B 1,6,7");
    }

    private static void each(int code, String... texts) {
        for (String text : texts) {
            two().code(text, code).table(0, 2, 1, 5).table(1, 3, 1, 6, 7);
        }
    }

    private static void noStatement() {
        Bench.at("SYNTAX (1): it is no statement");
        each(SYNTAX, "", " ", "select", "select a from A where", "selekt a from A", "select a from A)", "update A b", "A");
        two().code("update A b", 1).tellsNothing().done("update A b=5").table(0, 2, 1, 5);
    }

    private static void tableNotThere() {
        Bench.at("NAME (2): a table is not there");
        String[] ofC = {"insert C 2,3", "update C b=5", "delete C", "index C b", "select b from C", "select 1 from C", "select 1 from A,C",
            "select 1 from C,A", "delete C where 1=2", "update C b=5 where 1=2", "select 1 from C limit 0"};
        each(NAME, ofC);
        for (String text : ofC) {
            two().done("create C 2").done(text);
        }
    }

    private static void tableThereForCreate() {
        Bench.at("NAME (2): .. (for create: is there)");
        each(NAME, "create A 2", "create A 1", "create A 4", "create B 3");
        two().done("create C 3").code("create C 3", NAME).done("delete A").code("create A 2", NAME).table(0, 2);
        new Bench().done("create A 1").code("create A 1", NAME).done("create B 1").done("create C 1");
    }

    private static void tableNamedTwice() {
        Bench.at("NAME (2): a select names one table twice");
        each(NAME, "select 1 from A,A", "select A.a from A,A", "select a from B,B", "select 1 from C,C", "select 1 from A,A limit 0");
        two().done("select 1 from A,B").done("select 1 from B,A").done("select A.a,A.a from A");
    }

    private static void columnNotThere() {
        Bench.at("NAME (2): a column is not there");
        each(NAME, "index A c", "index A d", "index B d", "update A c=1", "update A d=1", "update B d=1", "update A b=c", "update A b=A.c");
        each(NAME, "update A b=1+(2*-c)", "update A b=1 where c=1", "delete A where c null", "delete A where 1=2 and d=1");
        each(NAME, "delete A where 1=1 or c=1", "delete A where not[not c<1]", "update A b=1 where a=1 and[a=2 or c>1]");
        two().done("index A b").done("index B c").done("update A b=b").done("update B c=c where c=7").done("delete A where b null");
    }

    private static void columnNotThereInSelect() {
        Bench.at("NAME (2): a column is not there, of a select");
        each(NAME, "select c from A", "select a,c from A", "select a,b,c from A", "select a,b,-(d) from A", "select A.c from A");
        each(NAME, "select a from A where c=1", "select a from A order c", "select a from A order c desc limit 0", "select a from A where 1=2 and A.d=1");
        each(NAME, "select d from A,B", "select A.c from A,B", "select c from A,B where d=1", "select c from A,B order B.d");
        two().done("select a,b from A where b=5 order b").done("select c from A,B where B.c=7 order c").done("select B.c from B,A");
    }

    private static void columnOfBoth() {
        Bench.at("NAME (2): or has no T though both tables have one so called");
        each(NAME, "select a from A,B", "select b from B,A", "select c,a from A,B", "select c from A,B where a=1", "select c from A,B order b");
        each(NAME, "select c,1,(b) from A,B", "select c from A,B where not[A.a=a]");
        two().done("select A.a,B.b,c from A,B where A.a=1 order B.b").result(3, 1, 6, 7);
        two().done("create C 1").done("insert C 3").done("select b from A,C").result(1, 5).code("select a from A,C", NAME);
    }

    private static void tableOfNone() {
        Bench.at("NAME (2): or a T that is none of the statement's tables");
        each(NAME, "select B.a from A", "select C.a from A", "select A.a from B", "select C.a from A,B", "select c from A,B where C.a=1");
        each(NAME, "update A b=B.b", "update A b=1 where B.a=1", "delete A where C.a=1", "select a from A order B.a", "update A b=C.a");
        two().done("create C 1").code("select C.a from A,B", NAME).code("delete A where C.a=1", NAME).done("select A.a from A,C");
    }

    private static void columnInInsert() {
        Bench.at("NAME (2): an E of insert has a column in it");
        each(NAME, "insert A a,1", "insert A 2,b", "insert A 2,A.b", "insert A 2,-(1+b)", "insert A 2,0*a", "insert A 2,B.b", "insert A 2,d");
        two().done("insert A 2,0").done("insert A 3,-(1+4)").table(0, 2, 1, 5, 2, 0, 3, -5);
    }

    private static void columnOfIndex() {
        Bench.at("NAME (2): the column of index is a or has an index already");
        each(NAME, "index A a", "index B a");
        Bench bench = two().done("index B b").code("index B b", NAME).code("index B a", NAME).done("index B c").code("index B c", NAME);
        bench.done("index A b").code("index A b", NAME);
        Bench.due("indexed a", bench.x.indexed(1, 0), false);
        // Behind an index that was refused there is none.
        two().code("index B d", NAME).code("index B b b", SYNTAX).done("index B b");
    }

    private static void numberOfCreate() {
        Bench.at("COUNT (3): create's number is not 1 .. 4");
        each(COUNT, "create C 0", "create C 5", "create C 000", "create C 44", "create C 999999999");
        for (int n = 1; n <= 4; n++) {
            Bench bench = two().code("create C 0", COUNT).code("create C 5", COUNT).done("create C " + n);
            Bench.due("columns", bench.x.columns(2), n);
        }
    }

    private static void numberOfInsert() {
        Bench.at("COUNT (3): insert has not as many E as the table has columns");
        String[] lists = {"9", "9,8", "9,8,7", "9,8,7,6", "9,8,7,6,5"};
        for (int columns = 1; columns <= 4; columns++) {
            for (int listed = 1; listed <= 5; listed++) {
                Bench bench = Bench.with("create C " + columns).code("insert C " + lists[listed - 1], listed == columns ? 0 : COUNT);
                Bench.due("rows of " + columns + " by " + listed, bench.x.size(2), listed == columns ? 1 : 0);
                Bench.due("told", bench.x.rows(), listed == columns ? 1 : 0);
            }
        }
    }

    private static void keyPutInNull() {
        Bench.at("KEY (4): a row that is put in would have NULL as its key");
        each(KEY, "insert A null,1", "insert A 1/0,1", "insert A 1-null,1", "insert A -null,null");
        two().done("insert A 0,null").done("insert A -1,1/0").table(0, 2, -1, NULL, 0, NULL, 1, 5);
    }

    private static void keyPutInThere() {
        Bench.at("KEY (4): a row that is put in would have the key that another row has");
        each(KEY, "insert A 1,5", "insert A 1,6", "insert A 3-2,1", "insert B 1,1,1", "insert A 65536*65536+1,1");
        two().done("insert A 0,5").done("insert A 2,5").done("insert A -1,5").table(0, 2, -1, 5, 0, 5, 1, 5, 2, 5);
    }

    private static Bench three() {
        return Bench.with("create A 2", "insert A 1,10", "insert A 2,20", "insert A 3,null");
    }

    private static void keyChangedNull() {
        Bench.at("KEY (4): a row that is changed would have NULL as its key");
        Bench bench = three();
        bench.codes(KEY, "update A a=null", "update A a=null where a=2", "update A a=a/0 where a=2", "update A a=b", "update A a=b where a=3");
        bench.table(0, 2, 1, 10, 2, 20, 3, NULL);
        bench.done("update A a=b where a<3").table(0, 2, 3, NULL, 10, 10, 20, 20);
    }

    private static void keyChangedToAnothers() {
        Bench.at("KEY (4): a row that is changed would have the key that another row has");
        Bench bench = three();
        bench.codes(KEY, "update A a=3 where a=1", "update A a=1 where a=3", "update A a=a+1 where a=2", "update A a=9", "update A a=4-a where a<3");
        bench.codes(KEY, "update A a=9 where a>1", "update A a=a/2", "update A a=a*0");
        bench.table(0, 2, 1, 10, 2, 20, 3, NULL);
        bench.done("update A a=4 where a=1").done("update A a=0 where a=3").table(0, 2, 0, NULL, 2, 20, 4, 10);
        bench.done("update A a=9 where a>2").table(0, 2, 0, NULL, 2, 20, 9, 10);
    }

    private static void keyOfAnotherThen() {
        Bench.at("KEY (4): the key that another row has THEN");
        Bench bench = three();
        bench.done("update A a=a+1").table(0, 2, 2, 10, 3, 20, 4, NULL);
        bench.done("update A a=a-1").table(0, 2, 1, 10, 2, 20, 3, NULL);
        bench.done("update A a=4-a").table(0, 2, 1, NULL, 2, 20, 3, 10);
        bench.done("update A a=a").table(0, 2, 1, NULL, 2, 20, 3, 10);
        bench.done("update A a=2 where a=2").table(0, 2, 1, NULL, 2, 20, 3, 10);
        bench.done("update A a=a+1 where a>1").table(0, 2, 1, NULL, 3, 20, 4, 10);
        bench.code("update A a=a-1 where a>3", KEY).code("update A a=a-2 where a>1", KEY).table(0, 2, 1, NULL, 3, 20, 4, 10);
    }

    private static void keyOfNoRowFound() {
        Bench.at("KEY (4): a row that is .. changed: none is, where none is found");
        Bench bench = three().done("update A a=null where a=9").done("update A a=1 where 1=2").done("update A a=1 where b=null");
        bench.table(0, 2, 1, 10, 2, 20, 3, NULL);
        bench.done("delete A").done("update A a=null").table(0, 2);
    }

    private static void keyOfOtherColumns() {
        Bench.at("KEY (4): the KEY alone may not be NULL or there twice");
        Bench bench = three().done("update A b=null").done("update A b=1").done("update A b=a").table(0, 2, 1, 1, 2, 2, 3, 3);
        bench.done("insert A 4,3").done("insert A 5,null").table(0, 2, 1, 1, 2, 2, 3, 3, 4, 3, 5, NULL);
    }

    private static void roomOfInsert() {
        Bench.at("ROOM (5): insert finds 20 rows");
        Bench bench = Bench.filled(18).done("insertA90").done("insertA91").code("insertA92", ROOM).tellsNothing().code("insertA-1", ROOM);
        Bench.due("size", bench.x.size(0), 20);
        Bench.due("first", bench.x.cell(0, 0, 0), 0);
        Bench.due("last", bench.x.cell(0, 19, 0), 91);
        bench.done("deleteAwhere a=90").done("insertA92").code("insertA90", ROOM);
        Bench.due("size", bench.x.size(0), 20);
    }

    /** Ten rows of A by seven of B: b is 0 .. 6. */
    private static Bench seventy() {
        Bench bench = Bench.with("createA1", "createB2");
        for (int k = 0; k < 10; k++) {
            bench.done("insertA" + k);
        }
        for (int k = 0; k < 7; k++) {
            bench.done("insertB" + k + "," + k);
        }
        return bench;
    }

    private static void roomOfSelect() {
        Bench.at("ROOM (5): a select has more than 60 rows");
        Bench bench = seventy();
        bench.answers("select b from A,B where b<6 and[b>0 or A.a>0]", 59, 21, 7 + 60);
        bench.answers("select b from A,B where b<6", 60, 21, 7 + 60);
        Bench.due("the last value", bench.x.value(59, 0), 5);
        Bench.due("behind it", bench.x.value(60, 0), QueryTables.NOTHING);
        bench.code("select b from A,B where b<6 or b=A.a", ROOM).tellsNothing();
        bench.code("select b from A,B", ROOM).tellsNothing();
    }

    private static void roomBeforeLimit() {
        Bench.at("ROOM (5): .. (before limit)");
        String sixtyOne = "select b from A,B where b<6 or b=A.a";
        seventy().code(sixtyOne + " limit 60", ROOM).tellsNothing().code(sixtyOne + " limit 0", ROOM).tellsNothing();
        seventy().code(sixtyOne + " limit 1", ROOM).code("select b from A,B order b desc limit 61", ROOM);
        Bench bench = seventy().answers("select b from A,B where b<6 limit 59", 59, 21, 67);
        bench.answers("select b from A,B where b<6 limit 61", 60, 21, 67);
    }

    private static void roomOfSelectOnly() {
        Bench.at("ROOM (5) is not for update and delete");
        Bench bench = Bench.filled(20).answers("updateAa=a+1", 20, 1, 20).answers("select a from A", 20, 1, 20).answers("deleteA", 20, 1, 20);
        bench.done("insertA1").table(0, 1, 1);
    }

    private static void syntaxFirst() {
        Bench.at("the first that is due in the order: SYNTAX first");
        each(SYNTAX, "select c,z from A", "create A 9 9", "create A -1", "insert A null,1,", "insert A 1,", "select a,b,a,c from A,A");
        each(NAME, "select c from A", "create A 9", "select a,b,a from A,A");
        Bench.filled(20).code("insertA90,", SYNTAX).code("insertA0)", SYNTAX).code("insertA90", ROOM);
        seventy().code("select b,b,b,b from A,B", SYNTAX).code("select b from A,B limit -1", SYNTAX).code("select b from A,B", ROOM);
    }

    private static void nameBeforeCount() {
        Bench.at("the first that is due in the order: NAME before COUNT");
        each(NAME, "create A 0", "create A 5", "create B 9", "insert C 1", "insert C 1,2,3,4,5", "insert A a", "insert A 1,2,a", "insert A b,b,b");
        each(COUNT, "create C 0", "insert A 1", "insert A 1,2,3");
    }

    private static void nameBeforeKeyAndRoom() {
        Bench.at("the first that is due in the order: NAME before KEY and ROOM");
        each(NAME, "insert A null,a", "insert A 1,a", "update A a=null where c=1", "update A a=c/0", "update A a=1/0 where B.a=1", "insert C null");
        each(KEY, "insert A null,2", "insert A 1,2", "update A a=null", "update A a=a/0 where a=1");
        Bench.filled(20).code("insertB1", NAME).code("insertA a", NAME).code("insertA90", ROOM);
        seventy().code("select c from A,B", NAME).code("select b from A,B order c", NAME).code("select b from A,B", ROOM);
    }

    private static void countBeforeKeyAndRoom() {
        Bench.at("the first that is due in the order: COUNT before KEY and ROOM");
        each(COUNT, "insert A null", "insert A 1", "insert A 1,2,3", "insert A null,2,3");
        each(KEY, "insert A null,2", "insert A 1,2");
        Bench.filled(20).code("insertA90,1", COUNT).code("insertA0,1", COUNT).code("insertA null,1", COUNT).code("insertA90", ROOM);
    }

    private static void keyBeforeRoom() {
        Bench.at("the first that is due in the order: KEY before ROOM");
        Bench.filled(20).code("insertA0", KEY).code("insertA19", KEY).code("insertA null", KEY).code("insertA20", ROOM).code("insertA-1", ROOM);
        Bench.filled(19).code("insertA0", KEY).code("insertA null", KEY).done("insertA20");
    }

    private static void nothingChanges() {
        Bench.at("With another code than DONE nothing of the tables and indexes changes");
        String[] texts = {"update A a=a+1)", "delete A where", "index A c c", "create B 2 2", "insert A 3,3,3,", "update A a=d", "delete A where d=1",
            "index A a", "index A b", "create A 1", "create B 0", "create B 5", "insert A 3", "insert A null,3,3", "update A a=3-a where a=1"};
        int[] codes = {SYNTAX, SYNTAX, SYNTAX, SYNTAX, SYNTAX, NAME, NAME, NAME, NAME, NAME, COUNT, COUNT, COUNT, KEY, KEY};
        for (int i = 0; i < texts.length; i++) {
            Bench bench = Bench.with("create A 3", "insert A 1,10,null", "insert A 2,20,7", "index A b");
            bench.code(texts[i], codes[i]).tellsNothing();
            bench.table(0, 3, 1, 10, NULL, 2, 20, 7);
            Bench.due("columns of B behind " + texts[i], bench.x.columns(1), 0);
            Bench.due("indexed b behind " + texts[i], bench.x.indexed(0, 1), true);
            Bench.due("indexed c behind " + texts[i], bench.x.indexed(0, 2), false);
            bench.answers("select a from A where b=20", 1, 2, 1).result(1, 2);
        }
    }

    private static void nothingChangesWhenFull() {
        Bench.at("With ROOM nothing of the tables changes");
        Bench bench = Bench.filled(20).code("insertA-5", ROOM).code("insertA55", ROOM);
        for (int k = 0; k < 20; k++) {
            Bench.due("cell " + k, bench.x.cell(0, k, 0), k);
        }
        bench = seventy().code("select b from A,B", ROOM);
        Bench.due("size 0", bench.x.size(0), 10);
        Bench.due("size 1", bench.x.size(1), 7);
        bench.done("select b from B order b desc limit 2").result(1, 6, 5);
    }

    private static void doneOtherwise() {
        Bench.at("DONE (0) otherwise");
        Bench bench = two();
        bench.codes(0, "create C 1", "index A b", "insert C 1", "update A b=1/0", "delete C where a=9", "select a from C where a=9", "delete C");
        bench.codes(0, "select 1 from A,C", "update C a=null", "select 1/0 from A", "select a from A limit 0");
    }
}
