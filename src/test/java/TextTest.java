/** What is a token, what is a statement, and what is neither. */
public final class TextTest {
    private static final int SYNTAX = QueryTables.SYNTAX;

    public static void main(String[] args) {
        tokens();
        numbers();
        forms();
        noForms();
        nests();
        lists();
        nullWords();
        Bench.end();
    }

    private static Bench table() {
        return Bench.with("create A 2", "insert A 1,5");
    }

    private static void each(int code, String... texts) {
        for (String text : texts) {
            table().code(text, code);
        }
    }

    private static void tokens() {
        Bench.at("tokens");
        Bench.with("createA2", "insertA1,5", "select a+2fromA", "indexA b");
        each(0, "selectA.a fromA", "select A . a from A", "  select   a   from   A  ", "select 1*a from A");
        each(0, "select a from A where b=5and a=1or b null", "select-a from A", "select(a)from A", "select a,b from A order b limit1");
        each(0, "updateAb=5where b null", "deleteAwhere a=1", "select a fromAwhere 2=a order 3limit 1");
        each(SYNTAX, "selecta from A", "select afrom A", "Select a from A", "SELECT a from A", "select a from a");
        each(SYNTAX, "select e from A", "select aa from A", "select a from D", "select a from AB", "select a from A;");
        each(SYNTAX, "select a from A where a==1", "select a from A where a<=1", "select a from A where a<>1");
        each(SYNTAX, "select a%2 from A", "select 'a' from A", "select {a} from A", "select a from A where a!1", "sel ect a from A");
        each(SYNTAX, "select a_b from A", "select a from A # b", "select a from A where a=\"1\"", "select a from A limit 1 0");
    }

    private static void numbers() {
        Bench.at("numbers");
        Bench bench = table();
        bench.done("select 999999999 from A").result(1, 999999999);
        bench.done("select 000000007 from A").result(1, 7);
        bench.code("select 1000000000 from A", SYNTAX);
        bench.code("select 0000000007 from A", SYNTAX);
        bench.code("select 99999999999999999999 from A", SYNTAX);
        bench.code("select a from A limit 1234567890", SYNTAX);
        bench.done("select a from A limit 999999999").result(1, 1);
        bench.code("select 1 2 from A", SYNTAX);
        bench.code("select 1.2 from A", SYNTAX);
        bench.done("create B 000000001");
    }

    private static void forms() {
        Bench.at("forms");
        each(0, "create B 2", "index A b", "insert A 2,3", "update A b=1", "update A b = 1 where a = 1", "delete A");
        each(0, "delete A where a=1", "select a from A", "select a from A where a=1", "select a from A order b");
        each(0, "select a from A order b desc", "select a from A limit 1", "select a from A where a=1 order b limit 2");
        each(0, "select a from A where a=1 order b desc limit 2", "select a from A order b limit 1");
        each(0, "select null from A order null", "update A b=null", "select a from A where not a=1", "select a from A where [a=1]");
        each(0, "select a from A where not[not a=1 or b=2]and a=1", "delete A where a<1 and a>1 or a null");
    }

    private static void noForms() {
        Bench.at("no forms");
        each(SYNTAX, "create", "create A", "create 2", "create B -2", "create B b", "create B (2)", "create B 2 2", "create b 2");
        each(SYNTAX, "index", "index A", "index b", "index A A.b", "index A (b)", "index A 1", "index A b b", "index A,b");
        each(SYNTAX, "insert", "insert A", "insert 1,2", "insert A 1,", "insert A ,1", "insert A 1 2", "insert A (1,2)", "insert A 1,2,");
        each(SYNTAX, "update", "update A", "update A b", "update A b=", "update A A.b=1", "update A b=1,a=2", "update A b=1 where");
        each(SYNTAX, "update A b<1", "update A (b)=1", "update A 1=b", "update A,A b=1", "update A b=1 limit 1", "update A where a=1");
        each(SYNTAX, "delete", "delete a", "delete A where", "delete A a=1", "delete A,A", "delete A order a", "delete A limit 1");
        each(SYNTAX, "select", "select a", "select from A", "select a from", "select a from A,", "select ,a from A", "select a, from A");
        each(SYNTAX, "select a from A A", "select a from A,A,A", "select a from A where", "select a from A order", "select a from A limit");
        each(SYNTAX, "select a from A desc", "select a from A limit 1 order a", "select a from A order a where a=1");
        each(SYNTAX, "select a from A limit -1", "select a from A limit a", "select a from A limit (1)", "select a from A order a desc desc");
        each(SYNTAX, "select a from A order a,b", "select a from A order desc", "select a from A where a=1 where a=1", "select * from A");
        each(SYNTAX, "select a from A where a", "select a from A where a=", "select a from A where =1", "select a from A where 1");
        each(SYNTAX, "select a from A where (a=1)", "select a from A where a=1=1", "select a from A where a=1 and", "select a from A where and a=1");
        each(SYNTAX, "select a from A where [a=1", "select a from A where a=1]", "select a from A where []", "select a from A where [a]");
        each(SYNTAX, "select a from A where a not null", "select a from A where not", "select a from A where not a", "select a from A or");
        each(SYNTAX, "select (a from A", "select a) from A", "select () from A", "select a+ from A", "select +a from A", "select a b from A");
        each(SYNTAX, "select a=1 from A", "select [a] from A", "select A from A", "select A. from A", "select .a from A", "select A.A from A");
        each(SYNTAX, "select a.b from A", "select A.1 from A", "select not a from A", "select a-*b from A", "a", "A", "1", "=", "from A select a");
        each(SYNTAX, "select a from A where a=(b null)", "select a from A where b=null null", "select a from A where a null null");
    }

    private static void nests() {
        Bench.at("nests");
        Bench bench = table();
        bench.done("select ((((((((a)))))))) from A").result(1, 1);
        bench.code("select (((((((((a))))))))) from A", SYNTAX);
        bench.done("select --------a from A").result(1, 1);
        bench.code("select ---------a from A", SYNTAX);
        bench.done("select -(-(-(-(a)))) from A").result(1, 1);
        bench.code("select -(-(-(-(-a)))) from A", SYNTAX);
        bench.done("select a from A where not not not not not not not not a=1").result(1, 1);
        bench.code("select a from A where not not not not not not not not not a=1", SYNTAX);
        bench.done("select a from A where [[[[[[[[a=1]]]]]]]]").result(1, 1);
        bench = table();
        bench.code("select a from A where [[[[[[[[[a=1]]]]]]]]]", SYNTAX);
        bench.done("select a from A where [[not[not[-(a)=-1]]]]").result(1, 1);
        bench.done("select a from A where [[[[[[[-a=-1]]]]]]]").result(1, 1);
        bench.code("select a from A where [[[[[[[-(a)=-1]]]]]]]", SYNTAX);
        bench.code("select a from A where [[[[[[[[-a=-1]]]]]]]]", SYNTAX);
        bench.done("insert A ((((((((2)))))))),((((((((2))))))))");
        bench.done("select ((a))+((b))*((((((((3)))))))) from A where a=1").result(1, 16);
    }

    private static void lists() {
        Bench.at("lists");
        each(0, "select a,b,a from A");
        each(SYNTAX, "select a,b,a,b from A", "select 1,2,3,4 from B", "select a,b,a,b,a from A");
        Bench bench = table();
        bench.code("insert A 1,1,1,1,1,1,1,1,1,1,1,1,1,1,1,1,1,1,1,1,1,1,1,1,1,1,1,1,1,1,1,1,1,1,1,1", QueryTables.COUNT);
        bench.code("insert A 1,1,1,1,1,1,1,1,1,1,1,1,1,1,1,1,1,1,1,1,1,1,1,1,1,1,1,1,1,1,1,1,1,1,1,", SYNTAX);
        bench.done("select 1+1+1+1+1+1+1+1+1+1+1+1+1+1+1+1+1+1+1+1+1+1+1+1+1+1+1+1+1+1+1+1+1 from A").result(1, 33);
        bench.done("select a from A where 1=1and 1=1and 1=1and 1=1and 1=1and 1=1and 1=1and 1=1").result(1, 1);
        bench.done("select a from A where 1=2or 1=2or 1=2or 1=2or 1=2or 1=2or 1=2or 1=2or 1=1").result(1, 1);
    }

    private static void nullWords() {
        Bench.at("null words");
        Bench bench = table();
        bench.done("select null from A where null null").result(1, QueryTables.NULL);
        bench.done("select a from A where null=null").result(1);
        bench.done("select a from A where b+null null").result(1, 1);
        bench.done("select a from A where 2null").result(1);
        bench.code("select a from A where null", SYNTAX);
        bench.code("select nulls from A", SYNTAX);
    }
}
