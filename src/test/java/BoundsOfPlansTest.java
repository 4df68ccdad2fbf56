/** Parts, what fixes a column, access, size, cost, and the rows fetched: each sentence of "PLANS" at both its sides. */
public final class BoundsOfPlansTest {
    private static final int SCAN = 1;
    private static final int INDEX = 2;
    private static final int KEY = 3;
    private static final int CROSSED = 16;

    public static void main(String[] args) {
        plansOfWhichStatements();
        partsOfOneK();
        onlyPartWithOr();
        noPartWithoutWhere();
        equalityFixes();
        eitherSideFixes();
        onlyThatColumn();
        parenthesesAndTable();
        noColumnOfTheSameTable();
        bracketAndNotFixNothing();
        keyIfItsColumnIsFixed();
        accessOfAnEmptyTable();
        columnsOfTheTablesBefore();
        indexOtherwise();
        scanOtherwise();
        firstKeyPartCounts();
        firstIndexPartCounts();
        firstPartOfTheSecond();
        sizeWithKey();
        sizeWithIndex();
        sizeWithScan();
        noTableBefore();
        costIsSumAndProduct();
        lessCostIsTaken();
        sameCostTakesTheOrder();
        scanFetchesAll();
        keyFetchesItsRow();
        indexFetchesItsRows();
        nullFetchesNone();
        secondForEachOfTheFirst();
        partsWithoutTheSecond();
        partsWithoutAnyColumn();
        partUnknown();
        partsWithTheSecond();
        onlyPartHeldBeforeTheSecond();
        readsOfBoth();
        limitLeavesOutNone();
        Bench.end();
    }

    /** Keys 1 .. 6; b is the key modulo 2, c modulo 3, d is NULL or 0; c and d have an index. */
    private static Bench six() {
        return Bench.with("createA4", "insertA1,1,1,null", "insertA2,0,2,0", "insertA3,1,0,null", "insertA4,0,1,0",
                "insertA5,1,2,null", "insertA6,0,0,0", "indexA c", "indexA d");
    }

    private static void plans(String c, int plan, int reads) {
        Bench bench = six().done("select a from A where " + c);
        Bench.due("plan where " + c, bench.x.plan(), plan);
        Bench.due("reads where " + c, bench.x.reads(), reads);
    }

    private static void plansOfWhichStatements() {
        Bench.at("PLANS, for update, delete and select");
        Bench bench = six();
        bench.answers("update A b=1 where a=1", 1, KEY, 1).answers("update A b=1 where c=1", 2, INDEX, 2).answers("update A b=1", 6, SCAN, 6);
        bench.answers("delete A where a=1", 1, KEY, 1).answers("delete A where c=1", 1, INDEX, 1).answers("delete A where b=9", 0, SCAN, 4);
        bench = six();
        bench.answers("select a from A where a=1", 1, KEY, 1).answers("select a from A where c=1", 2, INDEX, 2).answers("select a from A", 6, SCAN, 6);
        bench.answers("insert A 7,7,7,7", 1, 0, 0).answers("create B 1", 0, 0, 0).answers("index A b", 0, 0, 0);
    }

    private static void partsOfOneK() {
        Bench.at("The PARTS of C are its N, if C is one K");
        plans("a=1", KEY, 1);
        plans("b=1 and a=1", KEY, 1);
        plans("a=1 and b=1", KEY, 1);
        plans("b=1 and b=1 and a=1 and b=1", KEY, 1);
        plans("b=1 and c=1", INDEX, 2);
        plans("b<9 and not b=3 and[b=1 or b=2]and c=1", INDEX, 2);
    }

    private static void onlyPartWithOr() {
        Bench.at("if there is an or between its K, C is its only part");
        plans("a=1 or a=1", SCAN, 6);
        plans("a=1 or c=1", SCAN, 6);
        plans("c=1 or c=1", SCAN, 6);
        plans("a=1 and c=1 or b=1", SCAN, 6);
        plans("b=1 or a=1 and c=1", SCAN, 6);
        plans("[b=1 or c=1]and a=1", KEY, 1);
        plans("a=1 and[b=1 or c=1]", KEY, 1);
        plans("not[b=1 or c=1]and c=2", INDEX, 2);
    }

    private static void noPartWithoutWhere() {
        Bench.at("without where there is none");
        six().answers("select a from A", 6, SCAN, 6);
        six().answers("update A b=a", 6, SCAN, 6);
        six().answers("delete A", 6, SCAN, 6);
        six().answers("select a from A order a-1", 6, SCAN, 6);
    }

    private static void equalityFixes() {
        Bench.at("A part FIXES a column, if it is E = E'");
        plans("a=2", KEY, 1);
        plans("a<2", SCAN, 6);
        plans("a>2", SCAN, 6);
        plans("a null", SCAN, 6);
        plans("c=2", INDEX, 2);
        plans("c<2", SCAN, 6);
        plans("c>2", SCAN, 6);
        plans("d null", SCAN, 6);
    }

    private static void eitherSideFixes() {
        Bench.at("or E' = E");
        plans("2=a", KEY, 1);
        plans("2=c", INDEX, 2);
        plans("1+1=a", KEY, 1);
        plans("2<a", SCAN, 6);
        plans("2>a", SCAN, 6);
        plans("null=d", INDEX, 0);
    }

    private static void onlyThatColumn() {
        Bench.at("E is only that column");
        plans("a=3", KEY, 1);
        plans("a+0=3", SCAN, 6);
        plans("0+a=3", SCAN, 6);
        plans("a*1=3", SCAN, 6);
        plans("-a=3", SCAN, 6);
        plans("--a=3", SCAN, 6);
        plans("-(-a)=3", SCAN, 6);
        plans("3=a/1", SCAN, 6);
        plans("c-0=1", SCAN, 6);
        plans("1=3", SCAN, 6);
        plans("a=3+0", KEY, 1);
    }

    private static void parenthesesAndTable() {
        Bench.at("(parentheses around it, and T . ahead of it, do not matter)");
        plans("(a)=3", KEY, 1);
        plans("((((((((a))))))))=3", KEY, 1);
        plans("3=((a))", KEY, 1);
        plans("A.a=3", KEY, 1);
        plans("((A.a))=3", KEY, 1);
        plans("(c)=1", INDEX, 2);
        plans("1=A.c", INDEX, 2);
        plans("(A . c)=(1)", INDEX, 2);
        plans("(a+0)=3", SCAN, 6);
    }

    private static void noColumnOfTheSameTable() {
        Bench.at("E' has no column of the same table in it");
        plans("a=1", KEY, 1);
        plans("a=a", SCAN, 6);
        plans("a=b", SCAN, 6);
        plans("a=1+b-b", SCAN, 6);
        plans("a=0*a", SCAN, 6);
        plans("a=A.b", SCAN, 6);
        plans("c=b", SCAN, 6);
        plans("c=(-(d))", SCAN, 6);
        plans("c=d and a=3", KEY, 1);
        Bench bench = two();
        bench.done("select c from A,B where B.a=A.a+B.b").answers("select c from A,B where B.a=A.a", 3, SCAN + 4 * KEY, 3 + 3);
        bench.answers("select c from A,B where B.a=A.a+0*B.b", 3, SCAN + 4 * SCAN, 3 + 15);
        // The other table, though it comes ahead, does not make a column of the same one known.
        bench.answers("select c from A,B where A.a=A.b and B.a=1", 1, KEY + 4 * SCAN + CROSSED, 1 + 3);
        bench.answers("select c from B,A where A.a=A.b and B.a=1", 1, KEY + 4 * SCAN, 1 + 3);
    }

    private static void bracketAndNotFixNothing() {
        Bench.at("a part [ C ] or not N fixes nothing");
        plans("[a=1]", SCAN, 6);
        plans("[[a=1]]", SCAN, 6);
        plans("[a=1 and c=1]", SCAN, 6);
        plans("not a=1", SCAN, 6);
        plans("not not a=1", SCAN, 6);
        plans("not[a=1]", SCAN, 6);
        plans("not[not a=1]", SCAN, 6);
        plans("[c=1]", SCAN, 6);
        plans("[a=1]and c=1", INDEX, 2);
        plans("not a=1 and c=1", INDEX, 2);
        plans("[c=1]and a=1", KEY, 1);
        plans("a=1 and not c=1", KEY, 1);
    }

    private static void keyIfItsColumnIsFixed() {
        Bench.at("ACCESS is KEY (3) if a part fixes its column a");
        plans("a=4", KEY, 1);
        plans("a=7", KEY, 0);
        plans("c=1 and a=4", KEY, 1);
        plans("c=1 and d=0 and a=4", KEY, 1);
        plans("a=4 and c=1", KEY, 1);
        plans("b=4", SCAN, 6);
    }

    private static void accessOfAnEmptyTable() {
        Bench.at("the ACCESS of a table does not hang on its rows");
        Bench bench = six().done("delete A").answers("select a from A where a=1", 0, KEY, 0).answers("select a from A where c=1", 0, INDEX, 0);
        bench.answers("select a from A where b=1", 0, SCAN, 0).answers("update A b=1 where a=1", 0, KEY, 0).answers("delete A where c=1", 0, INDEX, 0);
        bench = six().done("delete A where a>1").answers("select a from A where c=1", 1, INDEX, 1).answers("select a from A where b=1", 1, SCAN, 1);
        bench.answers("select a from A where a=1", 1, KEY, 1).answers("select a from A where a=2", 0, KEY, 0);
    }

    /** A has 3 rows, B has 5; neither has an index. */
    private static Bench two() {
        return Bench.with("createA2", "createB3", "insertA1,1", "insertA2,1", "insertA3,null", "insertB1,2,1",
                "insertB2,2,2", "insertB3,3,3", "insertB4,null,4", "insertB5,3,null");
    }

    private static void columnsOfTheTablesBefore() {
        Bench.at("by an E' all of whose columns are of S");
        Bench bench = two();
        bench.answers("select c from A,B where B.a=A.b", 2, SCAN + 4 * KEY, 3 + 2);
        bench.answers("select c from A,B where B.a=A.a*A.b", 2, SCAN + 4 * KEY, 3 + 2);
        bench.answers("select c from A,B where B.a=2", 3, KEY + 4 * SCAN + CROSSED, 1 + 3);
        bench.answers("select c from A,B where B.a=A.a+c-c", 3, SCAN + 4 * SCAN, 3 + 15);
        bench.answers("select c from A,B where A.a=c", 3, SCAN + 4 * KEY + CROSSED, 5 + 3);
        bench.answers("select c from A,B where A.a=c+A.b-A.b", 2, SCAN + 4 * SCAN, 3 + 15);
    }

    private static void indexOtherwise() {
        Bench.at("otherwise INDEX (2) if a part fixes so a column with an index");
        plans("c=1", INDEX, 2);
        plans("d=0", INDEX, 3);
        plans("c=7", INDEX, 0);
        plans("b=1", SCAN, 6);
        plans("b=1 and d=0", INDEX, 3);
        Bench bench = six();
        bench.answers("select a from A where b=1", 3, SCAN, 6).done("indexA b").answers("select a from A where b=1", 3, INDEX, 3);
        bench = two();
        bench.done("indexB b").answers("select c from A,B where B.b=A.a", 4, SCAN + 4 * KEY + CROSSED, 5 + 4);
        bench.answers("select c from A,B where B.b=A.b+1", 4, SCAN + 4 * INDEX, 3 + 4);
    }

    private static void scanOtherwise() {
        Bench.at("otherwise SCAN (1)");
        plans("b=1", SCAN, 6);
        plans("b=1 and a>0 and c<9", SCAN, 6);
        two().answers("select c from A,B where A.b=B.b", 0, SCAN + 4 * SCAN, 3 + 15);
    }

    private static void firstKeyPartCounts() {
        Bench.at("The first such part of the text counts, for KEY");
        plans("a=1 and a=9", KEY, 1);
        plans("a=9 and a=1", KEY, 0);
        plans("c=1 and a=9 and a=1", KEY, 0);
        plans("a=null and a=1", KEY, 0);
        plans("1=a and a=null", KEY, 1);
    }

    private static void firstIndexPartCounts() {
        Bench.at("The first such part of the text counts, for INDEX");
        plans("c=1 and d=0", INDEX, 2);
        plans("d=0 and c=1", INDEX, 3);
        plans("b=0 and d=0 and c=1", INDEX, 3);
        plans("c=1 and c=9", INDEX, 2);
        plans("c=9 and c=1", INDEX, 0);
        plans("[c=9]and not c=9 and c=1 and d=0", INDEX, 2);
    }

    private static void firstPartOfTheSecond() {
        Bench.at("The first such part of the text counts, for the second table");
        Bench bench = two();
        bench.answers("select c from A,B where B.a=A.a and B.a=A.b", 1, SCAN + 4 * KEY, 3 + 3);
        bench.answers("select c from A,B where B.a=A.b and B.a=A.a", 1, SCAN + 4 * KEY, 3 + 2);
        bench.done("indexB b").done("indexB c");
        bench.answers("select c from A,B where B.b=A.b+1 and c=A.b", 2, SCAN + 4 * INDEX, 3 + 4);
        bench.answers("select c from A,B where c=A.b and B.b=A.b+1", 2, SCAN + 4 * INDEX, 3 + 2);
    }

    /** Two tables with so many rows of keys 0, 1, 2 ..; b is 1 in all of B, and has an index. */
    private static Bench sized(int ofA, int ofB) {
        Bench bench = Bench.with("createA1", "createB2", "indexBb");
        for (int k = 0; k < ofA; k++) {
            bench.done("insertA" + k);
        }
        for (int k = 0; k < ofB; k++) {
            bench.done("insertB" + k + ",1");
        }
        return bench;
    }

    private static void sizeWithKey() {
        Bench.at("Its SIZE is 1 with KEY");
        // B ahead by its key costs 1 + rows of A; A ahead costs rows of A + rows of A.
        sized(0, 2).answers("select b from A,B where B.a=1", 0, SCAN + 4 * KEY, 0);
        sized(1, 2).answers("select b from A,B where B.a=1", 1, SCAN + 4 * KEY, 1 + 1);
        sized(2, 2).answers("select b from A,B where B.a=1", 2, KEY + 4 * SCAN + CROSSED, 1 + 2);
        // Whether the table has no row, or no row of that key, or many rows.
        sized(1, 0).answers("select b from A,B where B.a=1", 0, SCAN + 4 * KEY, 1);
        sized(2, 0).answers("select b from A,B where B.a=1", 0, KEY + 4 * SCAN + CROSSED, 0);
        sized(1, 1).answers("select b from A,B where B.a=1", 0, SCAN + 4 * KEY, 1);
        sized(2, 15).answers("select b from A,B where B.a=1", 2, KEY + 4 * SCAN + CROSSED, 1 + 2);
        sized(1, 15).answers("select b from A,B where B.a=1", 1, SCAN + 4 * KEY, 1 + 1);
    }

    private static void sizeWithIndex() {
        Bench.at("with INDEX half the number of rows the table has, rounded up");
        // With one row in A the order costs 1 + half of B when A is ahead, and twice that half when B is.
        int[] ofB = {0, 1, 2, 3, 4, 5};
        int[] half = {0, 1, 1, 2, 2, 3};
        for (int i = 0; i < ofB.length; i++) {
            boolean bFirst = half[i] + half[i] <= 1 + half[i];
            int plan = bFirst ? INDEX + 4 * SCAN : SCAN + 4 * INDEX + CROSSED;
            sized(1, ofB[i]).answers("select b from B,A where B.b=1", ofB[i], plan, bFirst ? 2 * ofB[i] : 1 + ofB[i]);
            boolean aFirst = 1 + half[i] <= half[i] + half[i];
            plan = aFirst ? SCAN + 4 * INDEX : INDEX + 4 * SCAN + CROSSED;
            sized(1, ofB[i]).answers("select b from A,B where B.b=1", ofB[i], plan, aFirst ? 1 + ofB[i] : 2 * ofB[i]);
        }
        // The index of B ahead costs half and three times that half, A ahead three and three times that half.
        sized(3, 4).answers("select b from A,B where B.b=1", 12, INDEX + 4 * SCAN + CROSSED, 4 + 12);
        sized(3, 5).answers("select b from A,B where B.b=1", 15, SCAN + 4 * INDEX, 3 + 15);
        sized(3, 6).answers("select b from A,B where B.b=1", 18, SCAN + 4 * INDEX, 3 + 18);
        sized(3, 6).answers("select b from B,A where B.b=1", 18, INDEX + 4 * SCAN, 6 + 18);
        sized(3, 7).answers("select b from B,A where B.b=1", 21, SCAN + 4 * INDEX + CROSSED, 3 + 21);
    }

    private static void sizeWithScan() {
        Bench.at("with SCAN that number");
        for (int ofA = 0; ofA <= 4; ofA++) {
            for (int ofB = 0; ofB <= 4; ofB++) {
                Bench bench = sized(ofA, ofB);
                int lesser = Math.min(ofA, ofB);
                bench.answers("select b from A,B", ofA * ofB, SCAN + 4 * SCAN + (ofB < ofA ? CROSSED : 0), lesser + ofA * ofB);
                bench.answers("select b from B,A", ofA * ofB, SCAN + 4 * SCAN + (ofA < ofB ? CROSSED : 0), lesser + ofA * ofB);
            }
        }
    }

    private static void noTableBefore() {
        Bench.at("With one table S is empty");
        plans("a=1", KEY, 1);
        plans("a=b", SCAN, 6);
        plans("b=a", SCAN, 6);
        plans("c=a and a=1", KEY, 1);
        six().answers("update A b=1 where a=A.a", 6, SCAN, 6).answers("delete A where c=b", 2, SCAN, 6);
    }

    private static void costIsSumAndProduct() {
        Bench.at("Its COST is the size of the first and that size times the size of the second");
        // A by its key ahead: 1 + 1*2; B ahead: 2 + 2*1. The sizes alone would have the same sum and product.
        sized(5, 2).answers("select b from B,A where A.a=1", 2, KEY + 4 * SCAN + CROSSED, 1 + 2);
        sized(5, 2).answers("select b from A,B where A.a=1", 2, KEY + 4 * SCAN, 1 + 2);
        // A ahead: 4 + 4*1; B ahead: 2 + 2*4. The lesser table is not always the one ahead.
        Bench bench = sized(4, 2);
        bench.answers("select b from A,B where B.a=A.a", 2, SCAN + 4 * KEY + CROSSED, 2 + 2);
        bench.answers("select b from A,B where B.a=A.a+0", 2, SCAN + 4 * KEY, 4 + 2);
        bench.answers("select b from B,A where B.a=A.a+0", 2, SCAN + 4 * KEY + CROSSED, 4 + 2);
    }

    private static void lessCostIsTaken() {
        Bench.at("The plan with less cost is taken");
        // A ahead: its rows, and one for each; B ahead: three, and the rows of A for each.
        sized(2, 3).answers("select b from B,A where B.a=A.a+0", 2, SCAN + 4 * KEY + CROSSED, 2 + 2);
        sized(3, 3).answers("select b from B,A where B.a=A.a+0", 3, SCAN + 4 * KEY + CROSSED, 3 + 3);
        // A ahead: two, and one for each; B ahead: one, and two for it.
        sized(2, 1).answers("select b from A,B where B.b=1", 2, INDEX + 4 * SCAN + CROSSED, 1 + 2);
        // A ahead: one, and one for it; B ahead: three, and one for each.
        Bench bench = sized(1, 3);
        bench.answers("select b from B,A where A.a=B.a", 1, SCAN + 4 * KEY + CROSSED, 1 + 1);
        bench.answers("select b from A,B where A.a=B.a", 1, SCAN + 4 * KEY, 1 + 1);
    }

    private static void sameCostTakesTheOrder() {
        Bench.at("when both have the same, that in the order in which the statement names them");
        Bench bench = sized(3, 3);
        bench.answers("select b from A,B", 9, SCAN + 4 * SCAN, 3 + 9).answers("select b from B,A", 9, SCAN + 4 * SCAN, 3 + 9);
        bench.answers("select b from A,B where A.a=B.a", 3, SCAN + 4 * KEY, 3 + 3);
        bench.answers("select b from B,A where A.a=B.a", 3, SCAN + 4 * KEY, 3 + 3);
        bench = sized(3, 3).answers("select b from A,B where A.a=1 and B.a=9", 0, KEY + 4 * KEY, 1);
        bench.answers("select b from B,A where A.a=1 and B.a=9", 0, KEY + 4 * KEY, 0);
        sized(0, 0).answers("select b from A,B", 0, SCAN + 4 * SCAN, 0).answers("select b from B,A", 0, SCAN + 4 * SCAN, 0);
        // One more row on either side, and the costs are no longer the same.
        sized(4, 3).answers("select b from A,B", 12, SCAN + 4 * SCAN + CROSSED, 3 + 12);
        sized(3, 4).answers("select b from B,A", 12, SCAN + 4 * SCAN + CROSSED, 3 + 12);
    }

    private static void scanFetchesAll() {
        Bench.at("FETCHED are of the first table with SCAN all rows");
        plans("b=1", SCAN, 6);
        plans("b=9", SCAN, 6);
        plans("1=2", SCAN, 6);
        plans("null=1", SCAN, 6);
        sized(0, 0).answers("select a from A", 0, SCAN, 0);
        sized(20, 0).answers("select a from A where a>18", 1, SCAN, 20);
    }

    private static void keyFetchesItsRow() {
        Bench.at("with KEY those in which the column has the value of E'");
        plans("a=0", KEY, 0);
        plans("a=1", KEY, 1);
        plans("a=6", KEY, 1);
        plans("a=7", KEY, 0);
        plans("a=2*3", KEY, 1);
        plans("a=1 and b=0", KEY, 1);
        plans("a=1 and 1=2", KEY, 1);
    }

    private static void indexFetchesItsRows() {
        Bench.at("with INDEX those in which the column has the value of E'");
        plans("c=-1", INDEX, 0);
        plans("c=0", INDEX, 2);
        plans("c=2", INDEX, 2);
        plans("c=3", INDEX, 0);
        plans("d=0", INDEX, 3);
        plans("c=0 and b=9", INDEX, 2);
        Bench bench = six().done("updateAc=1").answers("select a from A where c=1", 6, INDEX, 6).answers("select a from A where c=2", 0, INDEX, 0);
        bench.done("deleteAwhere a>2").answers("select a from A where c=1", 2, INDEX, 2).done("insertA9,9,1,9");
        bench.answers("select a from A where c=1", 3, INDEX, 3);
    }

    private static void nullFetchesNone() {
        Bench.at("(none if that is NULL)");
        plans("d=0", INDEX, 3);
        plans("d=null", INDEX, 0);
        plans("d=1/0", INDEX, 0);
        plans("null=d", INDEX, 0);
        plans("a=null", KEY, 0);
        plans("a=-null", KEY, 0);
        plans("d null", SCAN, 6);
        // Of the second table, too: A.b is NULL in one row of A, as is B.b in one of B.
        two().answers("select c from A,B where B.a=A.b", 2, SCAN + 4 * KEY, 3 + 2);
        two().done("indexB b").answers("select c from A,B where B.b=A.b*2", 4, SCAN + 4 * INDEX, 3 + 4);
    }

    private static void secondForEachOfTheFirst() {
        Bench.at("Of the second table, so many rows are fetched again for each row fetched of the first");
        two().answers("select c from A,B", 15, SCAN + 4 * SCAN, 3 + 3 * 5);
        two().answers("select c from A,B where A.a=2", 5, KEY + 4 * SCAN, 1 + 5);
        two().answers("select c from A,B where A.a=9", 0, KEY + 4 * SCAN, 0);
        two().answers("select c from A,B where A.a=2 and B.a=3", 1, KEY + 4 * KEY, 1 + 1);
        two().answers("select c from A,B where A.a=2 and B.a=9", 0, KEY + 4 * KEY, 1 + 0);
        two().answers("select c from A,B where A.a=B.a", 3, SCAN + 4 * KEY, 3 + 3);
        two().done("delete A where a>1").answers("select c from A,B", 5, SCAN + 4 * SCAN, 1 + 5);
        two().done("delete B").answers("select c from B,A", 0, SCAN + 4 * SCAN, 0);
    }

    private static void partsWithoutTheSecond() {
        Bench.at("for which all parts are true that have no column of the second table in them");
        two().answers("select c from A,B where A.a<1", 0, SCAN + 4 * SCAN, 3);
        two().answers("select c from A,B where A.a<2", 5, SCAN + 4 * SCAN, 3 + 5);
        two().answers("select c from A,B where A.a<3", 10, SCAN + 4 * SCAN, 3 + 10);
        two().answers("select c from A,B where A.a<4", 15, SCAN + 4 * SCAN, 3 + 15);
        two().answers("select c from A,B where A.a>1 and A.a<3", 5, SCAN + 4 * SCAN, 3 + 5);
        two().answers("select c from A,B where A.a>1 and c=1 and A.a<3", 1, SCAN + 4 * SCAN, 3 + 5);
        two().answers("select c from A,B where c=1 and not A.a=1", 2, SCAN + 4 * SCAN, 3 + 10);
        two().answers("select c from A,B where [A.a=1 or A.a=3]and c>2", 4, SCAN + 4 * SCAN, 3 + 10);
        two().answers("select c from A,B where A.a=B.a and A.a>2", 1, SCAN + 4 * KEY, 3 + 1);
        // The second of the plan counts, not the second of the statement.
        two().answers("select c from B,A where A.a<2", 5, SCAN + 4 * SCAN + CROSSED, 3 + 5);
        two().answers("select c from B,A where c<2", 3, SCAN + 4 * SCAN + CROSSED, 3 + 15);
    }

    private static void partsWithoutAnyColumn() {
        Bench.at("(those without any column, too)");
        two().answers("select c from A,B where 1=1", 15, SCAN + 4 * SCAN, 3 + 15);
        two().answers("select c from A,B where 1=2", 0, SCAN + 4 * SCAN, 3);
        two().answers("select c from A,B where 0 null", 0, SCAN + 4 * SCAN, 3);
        two().answers("select c from A,B where null null", 15, SCAN + 4 * SCAN, 3 + 15);
        two().answers("select c from A,B where c=1 and 1=2", 0, SCAN + 4 * SCAN, 3);
        two().answers("select c from A,B where A.a=B.a and[1=2]", 0, SCAN + 4 * KEY, 3);
        // With one table such a part leaves out no row.
        plans("1=2 and b=1", SCAN, 6);
        plans("1=2 and a=1", KEY, 1);
    }

    private static void partUnknown() {
        Bench.at("for which all parts are TRUE, not unknown");
        two().answers("select c from A,B where A.b=1", 10, SCAN + 4 * SCAN, 3 + 10);
        two().answers("select c from A,B where not A.b=1", 0, SCAN + 4 * SCAN, 3);
        two().answers("select c from A,B where A.b null", 5, SCAN + 4 * SCAN, 3 + 5);
        two().answers("select c from A,B where null=1", 0, SCAN + 4 * SCAN, 3);
        two().answers("select c from A,B where not null=1", 0, SCAN + 4 * SCAN, 3);
    }

    private static void partsWithTheSecond() {
        Bench.at("a part with a column of the second table leaves out no row of the first");
        two().answers("select c from A,B where c=9", 0, SCAN + 4 * SCAN, 3 + 15);
        two().answers("select c from A,B where A.a+c=9", 0, SCAN + 4 * SCAN, 3 + 15);
        two().answers("select c from A,B where A.a=1 and c=9", 0, KEY + 4 * SCAN, 1 + 5);
        two().answers("select c from A,B where [A.a=1 and c=1]", 1, SCAN + 4 * SCAN, 3 + 15);
        two().answers("select c from A,B where A.a<0*c", 0, SCAN + 4 * SCAN, 3 + 15);
    }

    private static void onlyPartHeldBeforeTheSecond() {
        Bench.at("with an or all of C is the part that must be true");
        two().answers("select c from A,B where A.a=1 or A.a=3", 10, SCAN + 4 * SCAN, 3 + 10);
        two().answers("select c from A,B where A.a=1 or c=1", 7, SCAN + 4 * SCAN, 3 + 15);
        two().answers("select c from A,B where 1=2 or 2=3", 0, SCAN + 4 * SCAN, 3);
        two().answers("select c from A,B where A.a=9 and c=1 or 1=2", 0, SCAN + 4 * SCAN, 3 + 15);
        two().answers("select c from A,B where 1=2 or A.b=1 and A.a=2", 5, SCAN + 4 * SCAN, 3 + 5);
    }

    private static void readsOfBoth() {
        Bench.at("READS is the number of all rows fetched");
        two().answers("select c from A,B where A.a=1 and c=2", 1, KEY + 4 * SCAN, 1 + 5);
        two().answers("select c from A,B where A.a=B.b", 4, SCAN + 4 * KEY + CROSSED, 5 + 4);
        two().answers("select c from A,B where A.a=B.b and A.b=9", 0, SCAN + 4 * KEY + CROSSED, 5 + 4);
        two().answers("select c from A,B where B.a=A.a and c=9", 0, SCAN + 4 * KEY, 3 + 3);
        Bench bench = two().answers("update A b=9 where b=1", 2, SCAN, 3);
        bench.answers("update A b=9 where b=1", 0, SCAN, 3).answers("delete B where c>4", 0, SCAN, 5);
    }

    private static void limitLeavesOutNone() {
        Bench.at("(limit leaves out none)");
        for (int limit = 0; limit <= 7; limit++) {
            six().answers("select a from A limit " + limit, Math.min(limit, 6), SCAN, 6);
            six().answers("select a from A where c=1 limit " + limit, Math.min(limit, 2), INDEX, 2);
            two().answers("select c from A,B limit " + limit, limit, SCAN + 4 * SCAN, 3 + 15);
        }
    }
}
