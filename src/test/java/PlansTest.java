/** Parts, accesses, costs and reads. */
public final class PlansTest {
    public static void main(String[] args) {
        oneTable();
        whatFixes();
        firstPart();
        nullSought();
        updateAndDelete();
        costs();
        sizesAreRounded();
        outerParts();
        innerByOuter();
        Bench.end();
    }

    /** Keys 1 .. 6; b is the key modulo 2, c modulo 3, and d is NULL for half of them. */
    private static Bench six() {
        return Bench.with("createA4", "insertA1,1,1,null", "insertA2,0,2,0", "insertA3,1,0,null", "insertA4,0,1,0",
                "insertA5,1,2,null", "insertA6,0,0,0", "indexA c", "indexA d");
    }

    private static void oneTable() {
        Bench.at("one table");
        Bench bench = six();
        bench.answers("select a from A", 6, 1, 6);
        bench.answers("select a from A where b=1", 3, 1, 6);
        bench.answers("select a from A where c=1", 2, 2, 2);
        bench.answers("select a from A where a=3", 1, 3, 1);
        bench.answers("select a from A where a=9", 0, 3, 0);
        bench.answers("select a from A where a=3 and b=0", 0, 3, 1);
        bench.answers("select a from A where c=9", 0, 2, 0);
        bench = six();
        bench.answers("select a from A where c=1 limit 0", 0, 2, 2);
        bench.answers("select a from A where 1=2", 0, 1, 6);
        bench.answers("select a from A where 1=2 and c=1", 0, 2, 2);
    }

    private static void plans(String c, int plan) {
        Bench bench = six().done("select a from A where " + c);
        Bench.due("plan where " + c, bench.x.plan(), plan);
    }

    private static void whatFixes() {
        Bench.at("what fixes");
        plans("1=a", 3);
        plans("(a)=1", 3);
        plans("((A.a))=1+2*3", 3);
        plans("-3=(A . c)", 2);
        plans("a=null", 3);
        plans("c=7/0", 2);
        plans("-a=1", 1);
        plans("-(-a)=1", 1);
        plans("a+0=1", 1);
        plans("a*1=1", 1);
        plans("a<1", 1);
        plans("a>1", 1);
        plans("a null", 1);
        plans("d null", 1);
        plans("a=a", 1);
        plans("a=b", 1);
        plans("c=b+1", 1);
        plans("a=b-b", 1);
        plans("[a=1]", 1);
        plans("not a=1", 1);
        plans("not not a=1", 1);
        plans("not[a=1]", 1);
        plans("a=1 or a=2", 1);
        plans("[a=1]or c=2", 1);
        plans("c=1 and b=0 or a=1", 1);
        plans("[a=1 or a=2]and c=1", 2);
        plans("[a=1 and c=1]and b=1", 1);
        plans("not c=1 and a=1", 3);
        plans("b=1 and a=1", 3);
        plans("b=1", 1);
    }

    private static void firstPart() {
        Bench.at("first part");
        Bench bench = six();
        bench.answers("select a from A where c=1 and d=0", 1, 2, 2);
        bench.answers("select a from A where d=0 and c=1", 1, 2, 3);
        bench.answers("select a from A where d=0 and c=1 and a=4", 1, 3, 1);
        bench.answers("select a from A where a=4 and a=9", 0, 3, 1);
        bench.answers("select a from A where a=9 and a=4", 0, 3, 0);
        bench.answers("select a from A where b=0 and d=0 and c=0", 1, 2, 3);
    }

    private static void nullSought() {
        Bench.at("NULL sought");
        Bench bench = six();
        bench.answers("select a from A where d=null", 0, 2, 0);
        bench.answers("select a from A where d=1/0", 0, 2, 0);
        bench.answers("select a from A where a=null", 0, 3, 0);
        bench.answers("select a from A where d null", 3, 1, 6);
    }

    private static void updateAndDelete() {
        Bench.at("update and delete");
        Bench bench = six();
        bench.answers("update A b=5 where c=1", 2, 2, 2);
        bench.answers("update A b=b where a=1", 1, 3, 1);
        bench.answers("update A c=1 where c=2", 2, 2, 2);
        bench.answers("delete A where c=1", 4, 2, 4);
        bench.answers("delete A where a=1", 0, 3, 0);
        bench.answers("delete A where b=0", 1, 1, 2);
        bench.answers("delete A", 1, 1, 1);
    }

    private static Bench two() {
        return Bench.with("createA2", "createB3", "insertA1,1", "insertA2,1", "insertA3,null", "insertB1,2,1",
                "insertB2,2,2", "insertB3,3,3", "insertB4,null,4", "insertB5,3,null");
    }

    private static void costs() {
        Bench.at("costs");
        // A has 3 rows, B has 5: without fixing parts the lesser goes first.
        Bench bench = two();
        bench.answers("select c from A,B", 15, 5, 3 + 15);
        bench.answers("select c from B,A", 15, 21, 3 + 15);
        bench.answers("select c from A,B where A.a=B.a", 3, 13, 3 + 3);
        bench.answers("select c from A,B where A.b=B.a", 2, 13, 3 + 2);
        bench.answers("select c from A,B where B.b=A.a", 4, 16 + 13, 5 + 4);
        bench = two();
        bench.answers("select c from A,B where A.a=1", 5, 7, 1 + 5);
        // Known by its key, B is one row ahead, and A has then three.
        bench.answers("select c from A,B where B.a=1", 3, 16 + 7, 1 + 3);
        bench.answers("select c from A,B where A.a=1 and B.a=2", 1, 15, 2);
        bench.answers("select c from B,A where A.a=1 and B.a=2", 1, 15, 2);
        bench.done("indexB b");
        bench.answers("select c from A,B where A.b=B.b", 0, 9, 3);
        bench = two();
        bench.done("indexB b");
        // Index: 3 + 3*3 for A first; 5 + 5*1 for B first.
        bench.answers("select c from A,B where A.a=B.b", 4, 16 + 13, 5 + 4);
        // Index of B alone: 3 + 3*3 for A first and 3 + 3*3 for B first, so the order of the statement counts.
        bench.answers("select c from A,B where B.b=2", 6, 9, 3 + 6);
        bench.answers("select c from B,A where B.b=2", 6, 2 + 4, 2 + 6);
    }

    private static void sizesAreRounded() {
        Bench.at("sizes");
        // With one row, half of it rounded up is one: so index, key and scan cost the same.
        Bench bench = Bench.with("createA2", "createB3", "insertA1,1", "insertB1,1,1", "indexB b");
        bench.answers("select c from A,B where A.a=B.b", 1, 9, 2);
        bench.answers("select c from B,A where A.a=B.b", 1, 13, 2);
        // An empty table costs nothing ahead, but a key counts as one even in it.
        bench.done("deleteB");
        bench.answers("select c from A,B", 0, 21, 0);
        bench.answers("select c from A,B where B.a=A.a", 0, 16 + 13, 0);
        bench.answers("select c from A,B where B.a=1", 0, 5 + 8, 1 + 0);
    }

    private static void outerParts() {
        Bench.at("outer parts");
        Bench bench = two();
        bench.answers("select c from A,B where A.b=1", 10, 5, 3 + 10);
        bench.answers("select c from A,B where A.b=1 and c>2", 4, 5, 3 + 10);
        bench.answers("select c from A,B where 1=2", 0, 5, 3);
        bench.answers("select c from A,B where null=1", 0, 5, 3);
        bench.answers("select c from A,B where 1=1 and not A.a=2", 10, 5, 3 + 10);
        bench.answers("select c from A,B where [A.a=1 or A.a=3]", 10, 5, 3 + 10);
        bench = two();
        bench.answers("select c from A,B where A.a=1 or A.a=3", 10, 5, 3 + 10);
        bench.answers("select c from A,B where A.a=1 or c=3", 7, 5, 3 + 15);
        bench.answers("select c from A,B where 1=2 or 2=3", 0, 5, 3);
        bench.answers("select c from A,B where A.b null", 5, 5, 3 + 5);
        bench.answers("select c from A,B where A.b<c", 6, 5, 3 + 15);
    }

    private static void innerByOuter() {
        Bench.at("inner by outer");
        Bench bench = two();
        bench.answers("select c from A,B where B.a=A.b+A.a and A.a>0", 2, 13, 3 + 2);
        bench.answers("select c from A,B where B.a=A.a*2 and c<4", 1, 13, 3 + 2);
        bench.answers("select c from A,B where B.a=A.b/(A.a-1)", 1, 13, 3 + 1);
        bench.answers("select c from A,B where B.a=c-A.a+A.a", 12, 5, 3 + 15);
        bench.answers("select c from A,B where A.a=c and B.a=2", 1, 16 + 15, 1 + 1);
        // A part of one table alone does not fix its column, also when the other table comes ahead.
        bench.answers("select c from A,B where A.a=A.b and B.a=1", 1, 16 + 7, 1 + 3);
        bench.answers("select c from B,A where A.a=A.b and B.a=1", 1, 7, 1 + 3);
        bench = two();
        bench.done("indexB c");
        bench.answers("select c from A,B where A.a=c", 3, 16 + 13, 5 + 3);
    }
}
