import java.util.Arrays;
import java.util.List;

/** What a statement is: each form with a token less and more, each { } and ? ?, the deepest nest and the most E. */
public final class BoundsOfStatementsTest {
    private static final int SYNTAX = QueryTables.SYNTAX;
    private static final int NAME = QueryTables.NAME;
    private static final int COUNT = QueryTables.COUNT;

    public static void main(String[] args) {
        create();
        index();
        insert();
        update();
        delete();
        select();
        nothingMore();
        tableIsAName();
        colIsAWord();
        numbersAreNoE();
        listOfInsert();
        whereOnceOrNot();
        secondTableOnceOrNot();
        orderOnceOrNot();
        limitOnceOrNot();
        sums();
        products();
        factors();
        alternatives();
        conjunctions();
        negatables();
        deepestE();
        deepestMinus();
        deepestC();
        deepestNot();
        deepestOfBothSorts();
        deepestEverywhere();
        farTooDeep();
        nestsSideBySide();
        mostE();
        eachByItself();
        Bench.end();
    }

    private static Bench tables() {
        return Bench.with("create A 2", "insert A 1,5", "create C 3");
    }

    private static void each(int code, String... texts) {
        for (String text : texts) {
            tables().code(text, code);
        }
    }

    private static void isStatement(String text, boolean want) {
        Bench bench = tables().type(text);
        Bench.due("SYNTAX for " + text, bench.x.run() == SYNTAX, !want);
    }

    /** Each token left out, doubled, and cut off with all behind it; only the places told here leave a statement. */
    private static void onlyWhole(String text, String mayGo, String mayEnd) {
        each(0, text);
        List<String> tokens = Arrays.asList(text.split(" "));
        for (int i = 0; i < tokens.size(); i++) {
            String ahead = String.join(" ", tokens.subList(0, i));
            String behind = String.join(" ", tokens.subList(i + 1, tokens.size()));
            String token = tokens.get(i);
            isStatement(ahead + " " + behind, mayGo.contains("|" + i + "|"));
            isStatement(ahead, mayEnd.contains("|" + i + "|"));
            isStatement(ahead + " " + token + " " + token + " " + behind, false);
        }
    }

    private static void create() {
        Bench.at("create T NUMBER");
        onlyWhole("create B 2", "", "");
    }

    private static void index() {
        Bench.at("index T COL");
        onlyWhole("index A b", "", "");
        each(SYNTAX, "index A A.b", "index A (b)", "index A b,c", "index A , b", "index A.b");
    }

    private static void insert() {
        Bench.at("insert T E { , E }");
        onlyWhole("insert A 2 , 3", "", "|3|");
        each(SYNTAX, "insert A (2,3)", "insert A , 2 , 3", "insert A 2 , 3 ,", "insert A 2 , , 3", "insert A 2 , 3 where 1 = 1");
        each(COUNT, "insert A 2", "insert C 2 , 3");
    }

    private static void update() {
        Bench.at("update T COL = E ? where C ?");
        onlyWhole("update A b = 1 where a = 1", "", "|5|");
        each(SYNTAX, "update A A.b = 1", "update A (b) = 1", "update A b = 1 , a = 2", "update A b < 1", "update A b > 1", "update A b null");
        each(SYNTAX, "update A , C b = 1", "update A b = 1 order a", "update A b = 1 limit 1", "update A b = a = 1", "update A b = [ 1 ]");
    }

    private static void delete() {
        Bench.at("delete T ? where C ?");
        onlyWhole("delete A where a = 1", "", "|2|");
        each(SYNTAX, "delete A , C", "delete from A", "delete A a = 1", "delete A order a", "delete A limit 1", "delete a from A");
    }

    private static void select() {
        Bench.at("select E { , E } from T ? , T ? ? where C ? ? order E ? desc ? ? ? limit NUMBER ?");
        onlyWhole("select a , b from A where a = 1 order b desc limit 1", "|12|", "|6|10|12|13|");
        onlyWhole("select c from A , C where c = 1 order c desc limit 1", "|12|", "|4|6|10|12|13|");
        each(SYNTAX, "select * from A", "select a from A where", "from A select a", "select a A", "select from A", "select a from");
    }

    private static void nothingMore() {
        Bench.at("A STATEMENT is one of the following, and nothing more");
        String[] wholes = {"create B 2", "index A b", "insert A 2,3", "update A b=1", "update A b=1 where a=1", "delete A",
            "delete A where a=1", "select a from A", "select a from A where a=1", "select a from A order a",
            "select a from A order a desc", "select a from A limit 1", "select c from A,C"};
        each(0, wholes);
        for (String whole : wholes) {
            each(SYNTAX, whole + " create", whole + " a", whole + " A", whole + " ]", whole + " )", whole + " =", whole + " desc desc");
            each(SYNTAX, whole + " " + whole, whole + ",", whole + ".", "a " + whole, "( " + whole + " )", "1 " + whole);
        }
        each(SYNTAX, "create B 2 1", "index A b 1", "delete A 1", "select a from A 1", "select a from A limit 1 1");
        each(SYNTAX, "from A", "where a=1", "A", "a", "1", "drop A", "null", "limit 1", "order a", "desc", "not", "=", "a=1");
    }

    private static void tableIsAName() {
        Bench.at("T is a name");
        each(SYNTAX, "create a 2", "create 2", "create (B) 2", "index a b", "insert a 1,2", "update a b=1", "delete a", "delete 1");
        each(SYNTAX, "select a from a", "select a from 1", "select a from (A)", "select a from A.a", "select c from A,c", "select a from null");
    }

    private static void colIsAWord() {
        Bench.at("COL one of the words a, b, c, d");
        each(0, "index A b", "update A a=2", "update A b=2", "select a from A", "select A.b from A");
        each(NAME, "index A c", "index A d", "update A c=1", "update A d=1", "select c from A", "select A.d from A");
        each(SYNTAX, "index A e", "update A e=1", "select e from A", "select A.e from A", "select z from A", "select from from A");
        each(SYNTAX, "index A 1", "index A B", "update A 1=1", "update A A=1", "select A.1 from A", "select A.A from A", "select a.a from A");
        each(SYNTAX, "update A null=1", "index A null", "select A.null from A", "select A.(a) from A", "select (A).a from A");
    }

    private static void numbersAreNoE() {
        Bench.at("create T NUMBER .. limit NUMBER");
        each(0, "create B 2", "select a from A limit 2");
        each(SYNTAX, "create B (2)", "create B 1+1", "create B -2", "create B null", "create B b", "create B +2", "create B 2,2");
        each(SYNTAX, "select a from A limit (2)", "select a from A limit 1+1", "select a from A limit -1", "select a from A limit null");
        each(SYNTAX, "select a from A limit a", "select a from A limit 1,1", "select a from A limit 2 desc", "select a from A limit");
    }

    private static void listOfInsert() {
        Bench.at("insert T E { , E }: any number of times");
        each(COUNT, "insert A 2", "insert A 2,3,4", "insert A 2,3,4,5", "insert A 2,3,4,5,6");
        each(0, "insert A 2,3", "insert C 2,3,4");
        String most = "insertA" + "1,".repeat(36) + "1";
        Bench.due("characters", most.length(), 80);
        each(COUNT, most);
        each(SYNTAX, most.substring(0, 79), "insert A", "insert A ,");
    }

    private static void whereOnceOrNot() {
        Bench.at("? where C ? stands once or not at all");
        each(0, "delete A", "delete A where a=1", "update A b=1", "update A b=1 where a=1", "select a from A", "select a from A where a=1");
        each(SYNTAX, "delete A where", "delete A where a=1 where a=1", "update A b=1 where", "update A b=1 where a=1 where a=1");
        each(SYNTAX, "select a from A where", "select a from A where a=1 where a=1", "select a from A where where a=1", "select a where a=1 from A");
    }

    private static void secondTableOnceOrNot() {
        Bench.at("from T ? , T ?: once or not at all");
        each(0, "select c from C", "select c from A,C", "select c from C,A");
        each(SYNTAX, "select c from A,C,A", "select c from A,B,C", "select c from A,", "select c from ,A", "select c from A C", "select c from A,,C");
    }

    private static void orderOnceOrNot() {
        Bench.at("? order E ? desc ? ?: once or not at all");
        each(0, "select a from A", "select a from A order a", "select a from A order a desc", "select a from A order a+b*2 desc limit 1");
        each(SYNTAX, "select a from A order", "select a from A desc", "select a from A order desc", "select a from A order a order b");
        each(SYNTAX, "select a from A order a desc desc", "select a from A order a,b", "select a from A desc order a", "select a from A order a=1");
        each(SYNTAX, "select a from A order a where a=1", "select a from A where a=1 desc", "select a from A limit 1 order a");
    }

    private static void limitOnceOrNot() {
        Bench.at("? limit NUMBER ?: once or not at all");
        each(0, "select a from A", "select a from A limit 0", "select a from A limit 1", "select a from A where a=1 limit 1");
        each(SYNTAX, "select a from A limit", "select a from A limit 1 limit 1", "select a from A limit 1 where a=1", "select a limit 1 from A");
    }

    private static void is(String e, long want) {
        tables().done("select " + e + " from A").result(1, want);
    }

    private static void sums() {
        Bench.at("E is P { + P } or with - for any +");
        is("4", 4);
        is("4+1", 5);
        is("4-1", 3);
        is("4+1-2+3-4", 2);
        is("1" + "+1".repeat(32), 33);
        is("1" + "-1".repeat(32), -31);
        is("1+2*3-4/2", 5);
        each(SYNTAX, "select +4 from A", "select 4+ from A", "select 4++1 from A", "select 4-+1 from A", "select 4 1 from A", "select 4- from A");
    }

    private static void products() {
        Bench.at("P is F { * F } or with / for any *");
        is("6*2", 12);
        is("6/2", 3);
        is("6*2/3*5/4", 5);
        is("1" + "*1".repeat(32), 1);
        is("1" + "/1".repeat(32), 1);
        each(SYNTAX, "select *4 from A", "select 4* from A", "select 4**1 from A", "select 4*/1 from A", "select /4 from A", "select 4/ from A");
        each(SYNTAX, "select 4*+1 from A", "select 4+*1 from A");
    }

    private static void factors() {
        Bench.at("F is NUMBER, null, COL, T . COL, ( E ), or - F");
        is("3", 3);
        is("null", QueryTables.NULL);
        is("b", 5);
        is("A.b", 5);
        is("(b+1)", 6);
        is("-b", -5);
        is("4*-b", -20);
        is("4--b", 9);
        is("-(A.b)", -5);
        is("-null", QueryTables.NULL);
        each(SYNTAX, "select () from A", "select (b from A", "select b) from A", "select - from A", "select A from A", "select A. from A");
        each(SYNTAX, "select .b from A", "select [b] from A", "select (b=1) from A", "select not b from A", "select (b,1) from A");
        each(SYNTAX, "select b null from A", "select b=1 from A", "select A.-b from A", "select ((b) from A", "select (b)) from A");
    }

    private static void holds(String c, boolean want) {
        Bench bench = tables().done("select a from A where " + c);
        Bench.due("rows where " + c, bench.x.rows(), want ? 1 : 0);
    }

    private static void alternatives() {
        Bench.at("C is K { or K }");
        holds("1=1", true);
        holds("1=2or 1=1", true);
        holds("1=2or 1=2or 1=2", false);
        holds("1=2" + "or 1=2".repeat(8) + "or 1=1", true);
        each(SYNTAX, "delete A where or a=1", "delete A where a=1 or", "delete A where a=1 or or a=1", "delete A where a or b=1");
    }

    private static void conjunctions() {
        Bench.at("K is N { and N }");
        holds("1=1and 1=1", true);
        holds("1=1and 1=1and 1=2", false);
        holds("1=1" + "and 1=1".repeat(7), true);
        holds("1=2and 1=1or 1=1", true);
        holds("1=1or 1=1and 1=2", true);
        each(SYNTAX, "delete A where and a=1", "delete A where a=1 and", "delete A where a=1 and and a=1", "delete A where a=1 and or a=1");
        each(SYNTAX, "delete A where a=1 a=1", "delete A where a=1, a=1");
    }

    private static void negatables() {
        Bench.at("N is E = E, E < E, E > E, E null, [ C ], or not N");
        holds("a=1", true);
        holds("a<2", true);
        holds("a>0", true);
        holds("b null", false);
        holds("[a=1]", true);
        holds("[a=1 or a=2]and a=1", true);
        holds("not a=2", true);
        holds("not[a=2]", true);
        holds("not not a=1", true);
        each(SYNTAX, "delete A where a", "delete A where a=", "delete A where =1", "delete A where a=1=1", "delete A where a<1<2");
        each(SYNTAX, "delete A where a=<1", "delete A where null", "delete A where a null null", "delete A where a=1 null");
        each(SYNTAX, "delete A where a not null", "delete A where not", "delete A where not a", "delete A where []", "delete A where [a=1");
        each(SYNTAX, "delete A where a=1]", "delete A where [a]", "delete A where (a=1)", "delete A where [a=1]null", "delete A where a=[1]");
        each(SYNTAX, "delete A where a=not 1", "delete A where [a=1]=1", "delete A where -[a=1]", "delete A where(not a=1)");
    }

    private static String nested(String open, int depth, String inner, String close) {
        return open.repeat(depth) + inner + close.repeat(depth);
    }

    private static void deepestE() {
        Bench.at("an F ( E ) is a NEST; a nest may lie in at most 7 others");
        for (int depth = 1; depth <= 20; depth++) {
            Bench bench = tables().code("select " + nested("(", depth, "b", ")") + " from A", depth <= 8 ? 0 : SYNTAX);
            Bench.due("value at " + depth, bench.x.value(0, 0), depth <= 8 ? 5 : QueryTables.NOTHING);
        }
        each(0, "select ((((((((1+2))))))))*2 from A");
        each(SYNTAX, "select (((((((((1+2)))))))))*2 from A");
        is(nested("1+(", 8, "1", ")"), 9);
        each(SYNTAX, "select " + nested("1+(", 9, "1", ")") + " from A");
    }

    private static void deepestMinus() {
        Bench.at("an F - F is a NEST; a nest may lie in at most 7 others");
        for (int depth = 1; depth <= 20; depth++) {
            Bench bench = tables().code("select " + "-".repeat(depth) + "b from A", depth <= 8 ? 0 : SYNTAX);
            Bench.due("value at " + depth, bench.x.value(0, 0), depth > 8 ? QueryTables.NOTHING : depth % 2 == 0 ? 5 : -5);
        }
        // The - between two P is none.
        is("1-" + "-".repeat(8) + "b", -4);
        each(SYNTAX, "select 1-" + "-".repeat(9) + "b from A");
    }

    private static void deepestC() {
        Bench.at("an N [ C ] is a NEST; a nest may lie in at most 7 others");
        for (int depth = 1; depth <= 20; depth++) {
            Bench bench = tables().code("select b from A where " + nested("[", depth, "a=1", "]"), depth <= 8 ? 0 : SYNTAX);
            Bench.due("rows at " + depth, bench.x.rows(), depth <= 8 ? 1 : 0);
        }
    }

    private static void deepestNot() {
        Bench.at("an N not N is a NEST; a nest may lie in at most 7 others");
        for (int depth = 1; depth <= 12; depth++) {
            Bench bench = tables().code("select b from A where " + "not ".repeat(depth) + "a=1", depth <= 8 ? 0 : SYNTAX);
            Bench.due("rows at " + depth, bench.x.rows(), depth <= 8 && depth % 2 == 0 ? 1 : 0);
        }
    }

    private static void deepestOfBothSorts() {
        Bench.at("of both sorts together");
        for (int outer = 0; outer <= 9; outer++) {
            for (int inner = 0; inner <= 9; inner++) {
                int code = outer + inner <= 8 ? 0 : SYNTAX;
                each(code, "delete A where " + nested("[", outer, nested("(", inner, "a", ")") + "=1", "]"));
                each(code, "delete A where " + nested("[", outer, "1=" + "-".repeat(inner) + "a", "]"));
                each(code, "select " + "-".repeat(outer) + nested("(", inner, "a", ")") + " from A");
                each(code, "select " + nested("(", outer, "-".repeat(inner) + "a", ")") + " from A");
                each(code, "delete A where " + nested("[", outer, "not ".repeat(inner) + "a=1", "]"));
                each(code, "delete A where " + "not ".repeat(outer) + nested("(", inner, "a", ")") + " null");
            }
        }
        each(0, "delete A where [not[not[-(-a)=1]]]", "delete A where not[not[-(-(a))=1]]");
        each(SYNTAX, "delete A where [not[not[-(-(a))=1]]]", "delete A where not[not[-(-(-a))=1]]");
    }

    private static void deepestEverywhere() {
        Bench.at("a nest may lie in at most 7 others, in every E and C");
        String right = nested("(", 8, "1", ")");
        String wrong = nested("(", 9, "1", ")");
        each(0, "insert A 2," + right, "update A b=" + right, "select a from A order " + right, "select a,b," + right + " from A");
        each(SYNTAX, "insert A 2," + wrong, "update A b=" + wrong, "select a from A order " + wrong, "select a,b," + wrong + " from A");
        each(0, "delete A where a=" + right, "delete A where " + right + "null", "update A b=1 where a<" + right);
        each(SYNTAX, "delete A where a=" + wrong, "delete A where " + wrong + "null", "update A b=1 where a<" + wrong);
        each(0, "delete A where a=1 and[[[[[[[[a=1]]]]]]]]", "delete A where a=1 or[[[[[[[[a=1]]]]]]]]");
        each(SYNTAX, "delete A where a=1 and[[[[[[[[[a=1]]]]]]]]]", "delete A where a=1 or[[[[[[[[[a=1]]]]]]]]]");
        // Too deep is no statement, whatever else would be due.
        each(SYNTAX, "select " + wrong + " from B", "insert B " + wrong);
        each(NAME, "select " + right + " from B", "insert B " + right);
    }

    /** Texts that are one character, or nearly so, to the end of the room. */
    private static void farTooDeep() {
        Bench.at("a nest may lie in at most 7 others, not in as many as the text has room for");
        for (char c = 32; c < 127; c++) {
            String full = String.valueOf(c).repeat(80);
            new Bench().code(full, SYNTAX);
            each(SYNTAX, "select " + full.substring(7), "delete A where " + full.substring(15), "insert A " + full.substring(9));
        }
        each(SYNTAX, "select " + "-".repeat(60) + "a from A", "select " + nested("(", 32, "a", ")") + " from A");
        each(SYNTAX, "delete A where " + nested("[", 31, "a=1", "]"), "delete A where " + "not ".repeat(15) + "a=1");
        each(SYNTAX, "select " + "(-".repeat(20) + "a" + ")".repeat(20) + " from A", "delete A where " + nested("[not", 10, "[a=1]", "]"));
    }

    private static void nestsSideBySide() {
        Bench.at("a nest lies only in those around it");
        is(nested("(", 8, "1", ")") + "+" + nested("(", 8, "2", ")") + "*" + nested("(", 8, "3", ")"), 7);
        is("((((((-1-(2)-(3)-(-4)))))))", -2);
        is("(1)+(1)+(1)+(1)+(1)+(1)+(1)+(1)+(1)+(1)+(1)+(1)", 12);
        is("-1-1--1-1--1-1--1-1--1", -1);
        holds("[a=1]and[a=1]and[a=1]and[a=1]and[a=1]and[a=1]and[a=1]", true);
        holds("[[[[[[[[a=1]]]]]]]]and[[[[[[[[a=1]]]]]]]]", true);
        tables().done("select a from A where [[[[[[[[a=1]]]]]]]] order ((((((((a))))))))").result(1, 1);
        each(SYNTAX, "select (((((((-1-(2)-(3)-(-4)))))))) from A");
        // A - or not ends with its own F or N.
        is("-1*" + nested("(", 8, "2", ")"), -2);
        is(nested("(", 8, "2", ")") + "*-1", -2);
        holds("not a=2 and[[[[[[[[a=1]]]]]]]]", true);
        holds("not a=1 or[[[[[[[[a=1]]]]]]]]", true);
    }

    private static void mostE() {
        Bench.at("A select has at most three E before its from");
        String[] lists = {"a", "a,b", "a,b,9", "a,b,9,8", "a,b,9,8,7", "1,1,1,1,1,1,1,1,1,1,1,1,1,1,1,1,1,1,1,1"};
        for (int i = 0; i < lists.length; i++) {
            Bench bench = tables().code("select " + lists[i] + " from A", i < 3 ? 0 : SYNTAX);
            Bench.due("width of " + lists[i], bench.x.width(), i < 3 ? i + 1 : 0);
        }
        tables().done("select a,b,a+b from A order b limit 1").result(3, 1, 5, 6);
        each(SYNTAX, "select a,b,a,b from B", "select a,b,a,z from A", "select a,b,a, from A", "select a,b,a,b from A,C", "select from A");
        Bench.with("create A 4", "insert A 1,2,3,4").table(0, 4, 1, 2, 3, 4);
    }

    /** What a text leaves out is not taken from the one before it. */
    private static void eachByItself() {
        Bench.at("a statement is told by its own text alone");
        Bench bench = Bench.with("create A 2", "insert A 1,5", "insert A 2,6", "insert A 3,null");
        bench.done("select -a from A where a>1 order a desc limit 1").result(1, -3);
        bench.done("select -a from A").result(1, -1, -2, -3);
        bench.done("select -a from A order -a").result(1, -3, -2, -1);
        bench.done("select -a from A where b<9").result(1, -1, -2).done("select b from A limit 2").result(1, 5, 6);
        bench.done("select 0-a,b from A").result(2, -1, 5, -2, 6, -3, QueryTables.NULL);
        bench.done("select a from A where a=1 or a=2").result(1, 1, 2).done("update A b=a").table(0, 2, 1, 1, 2, 2, 3, 3);
        bench = Bench.with("create A 2", "create B 2", "insert A 1,5", "insert A 2,6", "insert B 1,7", "insert B 2,8");
        bench.done("select A.a,B.a from A,B where A.a=1 and B.a=2").result(2, 1, 2).done("select a from B").result(1, 1, 2);
        bench.code("select A.a from A,B where A.a=1 order A.a desc limit", SYNTAX).done("select -a from A").result(1, -1, -2);
        bench.code("select A.a from A,B where A.c=1 limit 1", NAME).answers("select a from B", 2, 1, 2).answers("delete A", 2, 1, 2);
        bench.code("select A.a from A where", SYNTAX).answers("delete B", 2, 1, 2);
    }
}
