/** Words, names, numbers, signs and blanks: each sentence of "Terms" on them at its bound and at both sides. */
public final class BoundsOfTokensTest {
    private static final int SYNTAX = QueryTables.SYNTAX;
    private static final int COUNT = QueryTables.COUNT;
    private static final String[] STATEMENTS = {"create B 1", "index A b", "insert A 2,2", "update A b=1 where a=1",
        "delete A where a=1", "select a from A where not a=1 and b=1 or b null order a desc limit 1"};

    public static void main(String[] args) {
        wordsGoOn();
        wordsHaveTheLettersAToZ();
        names();
        numbersGoOn();
        digits();
        longestNumber();
        longestNumberEverywhere();
        signs();
        anythingElse();
        blanksAsOneLikes();
        blanksWhereTwoWouldBeOne();
        blanksInsideTokens();
        onlyBlanks();
        Bench.end();
    }

    private static Bench table() {
        return Bench.with("create A 2", "insert A 1,5");
    }

    private static void each(int code, String... texts) {
        for (String text : texts) {
            table().code(text, code);
        }
    }

    /** Each word of each statement, spoilt by one letter or blank at a time: none of it may be read as the word. */
    private static void wordsGoOn() {
        Bench.at("a WORD is a row of letters, as long as it goes on");
        each(0, STATEMENTS);
        for (String text : STATEMENTS) {
            int begin = 0;
            for (String word : text.split(" ")) {
                if (word.matches("[a-z]{2,}")) {
                    spoil(text.substring(0, begin), word, text.substring(begin + word.length()));
                }
                begin += word.length() + 1;
            }
        }
        each(SYNTAX, "selecta from A", "select afrom A", "select ab from A", "select aa from A", "index A bb", "update A ab=1");
    }

    private static void spoil(String ahead, String word, String behind) {
        int end = word.length();
        each(SYNTAX, ahead + word.substring(1) + behind, ahead + word.substring(0, end - 1) + behind);
        each(SYNTAX, ahead + word + word.charAt(end - 1) + behind, ahead + word.charAt(0) + word + behind);
        each(SYNTAX, ahead + word + "z" + behind, ahead + "a" + word + behind, ahead + word.toUpperCase() + behind);
        for (int i = 1; i < end; i++) {
            each(SYNTAX, ahead + word.substring(0, i) + " " + word.substring(i) + behind);
        }
        for (int i = 0; i < end; i++) {
            String other = word.charAt(i) == 'x' ? "y" : "x";
            each(SYNTAX, ahead + word.substring(0, i) + other + word.substring(i + 1) + behind);
        }
    }

    private static void wordsHaveTheLettersAToZ() {
        Bench.at("letters a .. z");
        each(0, "select a from A");
        each(SYNTAX, "select ` from A", "select { from A", "select z from A", "select`a from A", "select{a from A", "select a` from A");
        // What is no letter ends a word without a blank.
        each(0, "select(a)from A", "select-a from A", "select 1from A", "select a from A where(a)=1and 1=1or 1=1");
        each(0, "selectA.a fromA", "updateAb=1", "indexAb", "deleteAwhere a=1");
    }

    private static void names() {
        Bench.at("a NAME is one of the letters A, B, C");
        for (char c = 33; c < 127; c++) {
            new Bench().code("create " + c + " 1", c >= 'A' && c <= 'C' ? 0 : SYNTAX);
        }
        new Bench().codes(SYNTAX, "create AB 1", "create AA 1", "create a 1", "create A. 1");
        new Bench().codes(0, "createA1", "createB1", "createC1");
    }

    private static void numbersGoOn() {
        Bench.at("a NUMBER is a row of digits, as long as it goes on");
        table().done("select 12,1 from A").result(2, 12, 1);
        table().done("select 012345678 from A").result(1, 12345678);
        table().done("select 123+4 from A").result(1, 127);
        each(SYNTAX, "select 1 2 from A", "select 12 3 from A", "create B 0 2", "select a from A limit 1 0");
        each(0, "create B 02", "select a from A limit 10");
        table().done("select 7from A where a=1or a=2").result(1, 7);
    }

    private static void digits() {
        Bench.at("digits");
        for (char c = 33; c < 127; c++) {
            boolean digit = c >= '0' && c <= '9';
            Bench bench = table().code("select a from A limit " + c, digit ? 0 : SYNTAX);
            Bench.due("rows with limit " + c, bench.x.rows(), digit && c > '0' ? 1 : 0);
        }
        table().done("select 10203,45607,8090 from A").result(3, 10203, 45607, 8090);
    }

    private static void longestNumber() {
        Bench.at("of at most 9 (a longer one is no token)");
        Bench bench = table();
        bench.done("select 99999999 from A").result(1, 99999999);
        bench.done("select 999999999 from A").result(1, 999999999);
        bench.codes(SYNTAX, "select 9999999999 from A", "select 1000000000 from A", "select 0000000000 from A");
        bench.done("select 00000000 from A").result(1, 0);
        bench.done("select 000000001 from A").result(1, 1);
        bench.code("select 0000000001 from A", SYNTAX);
        bench = table();
        bench.codes(SYNTAX, "select 99999999999 from A", "select 4294967297 from A", "select 18446744073709551617 from A");
        bench.codes(SYNTAX, "1".repeat(80), "select " + "0".repeat(60) + "1 from A", "select a from A 1234567890");
        bench.codes(SYNTAX, "select -1234567890 from A");
    }

    private static void longestNumberEverywhere() {
        Bench.at("a longer one is no token, wherever it stands");
        new Bench().codes(SYNTAX, "create A 0000000002", "create A 1000000002").codes(COUNT, "create A 100000002").done("create A 000000002");
        each(0, "insert A 123456789,1", "update A b=123456789", "delete A where a=123456789");
        each(SYNTAX, "insert A 1234567890,1", "update A b=1234567890", "delete A where a=1234567890");
        each(0, "select a from A limit 123456789", "select a from A order 123456789", "select a from A where(123456789)null");
        each(SYNTAX, "select a from A limit 1234567890", "select a from A order 1234567890", "select a from A where(1234567890)null");
        // No token is no statement, whatever else would be due.
        new Bench().codes(SYNTAX, "insert A 1234567890", "select 1234567890 from A");
    }

    private static void signs() {
        Bench.at("SIGNS are ( ) [ ] , . + - * / = < >");
        Bench bench = table();
        bench.done("select (a),A.b,1+2-3*4/5 from A where [a=1]").result(3, 1, 5, 1);
        bench.done("select a from A where a<2 and a>0").result(1, 1);
        each(SYNTAX, "select a from A where a<=1", "select a from A where a>=1", "select a from A where a<>1", "select a from A where a==1");
        each(SYNTAX, "select {a} from A", "select a from A where {a=1}", "select a from A where a!1", "select a;b from A", "select a:b from A");
        each(SYNTAX, "select a%2 from A", "select a^2 from A", "select a&1 from A", "select a|1 from A", "select ~a from A", "select a\\2 from A");
        each(SYNTAX, "select A'b from A", "select A_b from A", "select A\"b from A", "select ?a from A", "select #a from A", "select $a from A");
    }

    /** Ahead of, within and behind a statement each character that is none of its tokens spoils it. */
    private static void anythingElse() {
        Bench.at("anything else is no token");
        for (char c = 32; c < 127; c++) {
            int code = c == ' ' ? 0 : SYNTAX;
            table().codes(code, c + "select a from A", c + " select a from A", "select a from A" + c, "select a from A " + c);
            boolean sign = c == '-' || c == '(';
            table().codes(sign || c == ' ' ? 0 : SYNTAX, "select " + c + " a " + (c == '(' ? ")" : "") + " from A");
        }
    }

    private static void blanksAsOneLikes() {
        Bench.at("Blanks stand between tokens as one likes");
        Bench bench = table();
        bench.done("select A.b+1,a from A where a=1 limit 2").result(2, 6, 1);
        bench.done("  select  A  .  b  +  1  ,  a  from  A  where  a  =  1  limit  2  ").result(2, 6, 1);
        bench.done("select A .b +1 ,a from A where a =1 limit 2 ").result(2, 6, 1);
        bench.done("select A. b+ 1, a from A where a= 1 limit 2").result(2, 6, 1);
        bench.done(" ".repeat(65) + "select a from A").result(1, 1);
        bench = table();
        bench.done("select a from A" + " ".repeat(65)).result(1, 1);
        bench.done("select" + " ".repeat(66) + "a from A").result(1, 1);
        bench.done("  insert  A  2  ,  - 3  ").done(" update A b = ( 4 ) where [ a = 2 ] ").table(0, 2, 1, 5, 2, 4);
        new Bench().done("  create   A   3  ").done("  index   A   b  ").table(0, 3);
    }

    private static void blanksWhereTwoWouldBeOne() {
        Bench.at("and are needed only where two would be one");
        Bench.with("createA2", "insertA1,5", "indexAb", "updateAb=5where 1=a", "selectA.a fromA", "deleteAwhere a=2");
        Bench.with("createA2", "insertA1,5", "select-a,(b)fromA", "select 1from Awhere a=1and b=5or not[b null]order 2desc");
        Bench.with("createA2", "select a fromAorder a limit1", "createB3", "select c fromA,Bwhere 1=A.a");
        each(SYNTAX, "selecta from A", "select afrom A", "select a from A wherea=1", "select a from A where a=b and a=band a=1");
        each(SYNTAX, "select a from A where nota=1", "select a from A where bnull", "select a from A where 1=1 or a=1 order adesc");
        each(0, "select a from A where 1=b and a=b and a=1", "select a from A where not a=1", "select a from A order a desc");
    }

    private static void blanksInsideTokens() {
        Bench.at("blanks stand BETWEEN tokens");
        each(SYNTAX, "sel ect a from A", "select a fr om A", "select a from A wh ere a=1", "select nu ll from A", "create B 1 2");
        each(SYNTAX, "select a from A where n ot a=1", "select a from A order a de sc", "select 9 9 from A", "del ete A");
    }

    private static void onlyBlanks() {
        Bench.at("a text without tokens is no statement");
        new Bench().codes(SYNTAX, "", " ", " ".repeat(79), " ".repeat(80), "");
    }
}
