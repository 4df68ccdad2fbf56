/** What E, C and COL mean: each sentence of "MEANING" at its bound and at both sides. */
public final class BoundsOfMeaningTest {
    private static final long NULL = QueryTables.NULL;
    private static final int NAME = QueryTables.NAME;
    private static final int MOST = Integer.MAX_VALUE;
    private static final int LEAST = Integer.MIN_VALUE;

    public static void main(String[] args) {
        fromTheLeft();
        sumsWrap();
        differencesWrap();
        productsWrap();
        noStepIsLost();
        quotients();
        quotientOfTheLeast();
        divisionByZero();
        minus();
        nullOfOneSide();
        nullOfMinus();
        equal();
        less();
        greater();
        comparedAtTheEnds();
        unknownIfOneSideIsNull();
        saysWhetherNull();
        notOfUnknown();
        andOfTruths();
        orOfTruths();
        longRowsOfTruths();
        columnOfTheTable();
        columnOfTheOneThatHasIt();
        columnOfTheTableNamed();
        Bench.end();
    }

    private static Bench one() {
        return Bench.with("create A 3", "insert A 1,7,null");
    }

    private static void is(String e, long want) {
        one().done("select " + e + " from A").result(1, want);
    }

    private static void fromTheLeft() {
        Bench.at("+ - * are worked out from the left");
        is("9-4-3", 2);
        is("9-(4-3)", 8);
        is("9-4+3", 8);
        is("9+4-3", 10);
        is("8/4*2", 4);
        is("8/(4*2)", 1);
        is("8*2/4", 4);
        is("7/2*2", 6);
        is("100/10/5", 2);
        is("2+3*4", 14);
        is("2*3+4", 10);
        is("20-6/3", 18);
        is("20-12-6/3-1", 5);
        is("-2*3-4", -10);
    }

    private static void sumsWrap() {
        Bench.at("+ wraps");
        is(Bench.MOST + "+0", MOST);
        is(Bench.MOST + "-1+1", MOST);
        is(Bench.MOST + "+1", LEAST);
        is(Bench.MOST + "+2", LEAST + 1);
        is(Bench.MOST + "+" + Bench.MOST, -2);
        is(Bench.LEAST + "+-1", MOST);
        is(Bench.LEAST + "+" + Bench.LEAST, 0);
        is(Bench.LEAST + "+" + Bench.MOST, -1);
        is("999999999+999999999+999999999", -1294967299);
    }

    private static void differencesWrap() {
        Bench.at("- wraps");
        is(Bench.LEAST + "-0", LEAST);
        is(Bench.LEAST + "+1-1", LEAST);
        is(Bench.LEAST + "-1", MOST);
        is(Bench.LEAST + "-2", MOST - 1);
        is(Bench.MOST + "--1", LEAST);
        is(Bench.MOST + "-" + Bench.LEAST, -1);
        is(Bench.LEAST + "-" + Bench.MOST, 1);
        is("0-" + Bench.LEAST, LEAST);
        is("-1-" + Bench.LEAST, MOST);
    }

    private static void productsWrap() {
        Bench.at("* wraps");
        is("46340*46340", 2147395600);
        is("46341*46341", -2147479015);
        is("65536*32767", 2147418112);
        is("65536*32768", LEAST);
        is("65536*-32768", LEAST);
        is("65536*65536", 0);
        is("65536*65537", 65536);
        is("999999999*999999999", 808348673);
        is(Bench.MOST + "*2", -2);
        is(Bench.LEAST + "*2", 0);
        is(Bench.LEAST + "*-1", LEAST);
    }

    /** A step wraps before the next one is worked out. */
    private static void noStepIsLost() {
        Bench.at("each step wraps by itself");
        is("65536*65536/65536", 0);
        is("(" + Bench.MOST + "+1)/2", -1073741824);
        is("65536*32768/2", -1073741824);
        is("1/(65536*65536)", NULL);
        Bench bench = one().done("select a from A where " + Bench.MOST + "+1<0 and 65536*65536=0");
        bench.result(1, 1);
    }

    private static void quotients() {
        Bench.at("/ is as in Java");
        is("7/2", 3);
        is("-7/2", -3);
        is("7/-2", -3);
        is("-7/-2", 3);
        is("1/2", 0);
        is("-1/2", 0);
        is("2/2", 1);
        is("3/2", 1);
        is("0/5", 0);
        is("0/-5", 0);
        is("7/7", 1);
        is("6/7", 0);
        is("8/7", 1);
        is("-(7/2)", -3);
    }

    private static void quotientOfTheLeast() {
        Bench.at("/ is as in Java, also for the least int");
        is(Bench.LEAST + "/-1", LEAST);
        is("(" + Bench.LEAST + "+1)/-1", MOST);
        is(Bench.MOST + "/-1", -MOST);
        is(Bench.LEAST + "/1", LEAST);
        is(Bench.LEAST + "/-2", 1073741824);
        is(Bench.LEAST + "/" + Bench.LEAST, 1);
        is(Bench.MOST + "/" + Bench.LEAST, 0);
    }

    private static void divisionByZero() {
        Bench.at("but NULL if the right one is 0");
        is("7/1", 7);
        is("7/0", NULL);
        is("7/-1", -7);
        is("0/0", NULL);
        is("0/1", 0);
        is("-7/0", NULL);
        is("b/(a-1)", NULL);
        is("b/(a-2)", -7);
        is("b/a", 7);
        is("7/-0", NULL);
        is(Bench.LEAST + "/0", NULL);
        is("1+7/0", NULL);
        is("0*(7/0)", NULL);
        is("7/(1/2)", NULL);
    }

    private static void minus() {
        Bench.at("- F is 0 less F");
        is("-1", -1);
        is("-0", 0);
        is("--1", 1);
        is("-b", -7);
        is("-(1-3)", 2);
        is("-" + Bench.MOST, -MOST);
        is("-(" + Bench.LEAST + "+1)", MOST);
        is("-" + Bench.LEAST, LEAST);
        is("-2+5", 3);
        is("-2*-2", 4);
        is("5--2", 7);
        // It is the F that is taken from 0, not all of the P.
        is("-" + Bench.LEAST + "/2", -1073741824);
        is("-(" + Bench.LEAST + "/2)", 1073741824);
        is("-2-3", -5);
    }

    private static void nullOfOneSide() {
        Bench.at("All are NULL if one side is");
        String[] signs = {"+", "-", "*", "/"};
        String[] sides = {"0", "7", "b", "-1"};
        for (String sign : signs) {
            for (String side : sides) {
                is("null" + sign + side, NULL);
                is(side + sign + "null", NULL);
                is("c" + sign + side, NULL);
                is(side + sign + "c", NULL);
            }
            is("null" + sign + "null", NULL);
            is("c" + sign + "c", NULL);
            is("1+1" + sign + "c+1", NULL);
        }
        is("7-7", 0);
    }

    private static void nullOfMinus() {
        Bench.at("All are NULL if one side is: - F, too");
        is("-null", NULL);
        is("-c", NULL);
        is("--c", NULL);
        is("-(7/0)", NULL);
        is("-0", 0);
        is("-(c+1)", NULL);
    }

    private static final int FALSE = 0;
    private static final int UNKNOWN = 1;
    private static final int TRUE = 2;

    private static void truth(String c, int want) {
        Bench bench = one().done("select a from A where " + c);
        Bench.due("rows where " + c, bench.x.rows(), want == TRUE ? 1 : 0);
        bench = one().done("select a from A where not[" + c + "]");
        Bench.due("rows where not[" + c + "]", bench.x.rows(), want == FALSE ? 1 : 0);
    }

    private static void equal() {
        Bench.at("E = E' is true or false");
        truth("b=6", FALSE);
        truth("b=7", TRUE);
        truth("b=8", FALSE);
        truth("7=b", TRUE);
        truth("0=-0", TRUE);
        truth("b=-7", FALSE);
        truth("a+6=b", TRUE);
    }

    private static void less() {
        Bench.at("E < E' is true or false");
        truth("b<6", FALSE);
        truth("b<7", FALSE);
        truth("b<8", TRUE);
        truth("-1<0", TRUE);
        truth("0<-1", FALSE);
        truth("a<b", TRUE);
    }

    private static void greater() {
        Bench.at("E > E' is true or false");
        truth("b>6", TRUE);
        truth("b>7", FALSE);
        truth("b>8", FALSE);
        truth("-1>0", FALSE);
        truth("0>-1", TRUE);
        truth("a>b", FALSE);
    }

    /** A difference would wrap here, and so would tell the wrong order. */
    private static void comparedAtTheEnds() {
        Bench.at("= < > of the greatest and the least int");
        truth(Bench.LEAST + "<" + Bench.MOST, TRUE);
        truth(Bench.LEAST + ">" + Bench.MOST, FALSE);
        truth(Bench.MOST + ">" + Bench.LEAST, TRUE);
        truth(Bench.MOST + "<" + Bench.LEAST, FALSE);
        truth(Bench.LEAST + "=" + Bench.MOST, FALSE);
        truth(Bench.LEAST + "=" + Bench.MOST + "+1", TRUE);
        truth(Bench.LEAST + "<0", TRUE);
        truth(Bench.LEAST + "<1", TRUE);
        truth(Bench.MOST + ">-1", TRUE);
        truth(Bench.MOST + ">-2", TRUE);
    }

    private static void unknownIfOneSideIsNull() {
        Bench.at("UNKNOWN if one side is NULL");
        String[] signs = {"=", "<", ">"};
        String[] nulls = {"null", "c", "1/0", "b+c"};
        for (String sign : signs) {
            for (String none : nulls) {
                truth(none + sign + "7", UNKNOWN);
                truth("7" + sign + none, UNKNOWN);
                truth(none + sign + "0", UNKNOWN);
                truth("-1" + sign + none, UNKNOWN);
                truth(none + sign + none, UNKNOWN);
                truth(none + sign + "null", UNKNOWN);
            }
        }
        truth("b=b", TRUE);
    }

    private static void saysWhetherNull() {
        Bench.at("E null says whether E is NULL");
        truth("null null", TRUE);
        truth("c null", TRUE);
        truth("1/0null", TRUE);
        truth("c+1null", TRUE);
        truth("(c)null", TRUE);
        truth("-c null", TRUE);
        truth("0null", FALSE);
        truth("b null", FALSE);
        truth("0/1null", FALSE);
        truth("-1null", FALSE);
        truth("A.c null", TRUE);
        truth("A.b null", FALSE);
        truth("not b null", TRUE);
        truth("not c null", FALSE);
    }

    private static final String[] TRUTHS = {"1=2", "c=1", "1=1"};

    private static void notOfUnknown() {
        Bench.at("not of unknown is unknown");
        truth("not c=1", UNKNOWN);
        truth("not not c=1", UNKNOWN);
        truth("not not not c=1", UNKNOWN);
        truth("not[c=1]", UNKNOWN);
        truth("not 1=1", FALSE);
        truth("not 1=2", TRUE);
        truth("not not 1=1", TRUE);
        truth("not not 1=2", FALSE);
    }

    private static void andOfTruths() {
        Bench.at("and is false if one side is false, otherwise unknown if one is");
        int[][] want = {{FALSE, FALSE, FALSE}, {FALSE, UNKNOWN, UNKNOWN}, {FALSE, UNKNOWN, TRUE}};
        for (int x = 0; x < 3; x++) {
            for (int y = 0; y < 3; y++) {
                truth(TRUTHS[x] + " and " + TRUTHS[y], want[x][y]);
                truth("[" + TRUTHS[x] + "]and[" + TRUTHS[y] + "]", want[x][y]);
            }
        }
    }

    private static void orOfTruths() {
        Bench.at("or is true if one side is, otherwise unknown if one is");
        int[][] want = {{FALSE, UNKNOWN, TRUE}, {UNKNOWN, UNKNOWN, TRUE}, {TRUE, TRUE, TRUE}};
        for (int x = 0; x < 3; x++) {
            for (int y = 0; y < 3; y++) {
                truth(TRUTHS[x] + " or " + TRUTHS[y], want[x][y]);
                truth("[" + TRUTHS[x] + "]or[" + TRUTHS[y] + "]", want[x][y]);
            }
        }
    }

    private static void longRowsOfTruths() {
        Bench.at("and and or among three");
        truth("1=1and c=1and 1=1", UNKNOWN);
        truth("1=1and c=1and 1=2", FALSE);
        truth("1=2or c=1or 1=2", UNKNOWN);
        truth("1=2or c=1or 1=1", TRUE);
        truth("1=1or c=1and 1=2", TRUE);
        truth("1=2and c=1or c=1", UNKNOWN);
        truth("[1=1or c=1]and 1=2", FALSE);
        truth("1=1or 1=1and 1=2", TRUE);
        truth("not 1=2and 1=2", FALSE);
        truth("not[1=2and 1=2]", TRUE);
        truth("not 1=1or 1=1", TRUE);
    }

    private static void columnOfTheTable() {
        Bench.at("A COL means the column of the statement's table that is so called");
        Bench bench = Bench.with("create A 2", "create B 3", "insert A 1,2", "insert B 3,4,5");
        bench.done("select a,b from A").result(2, 1, 2);
        bench.done("select a,b,c from B").result(3, 3, 4, 5);
        bench.code("select c from A", NAME).code("select d from B", NAME);
        bench.done("update A b=a+9").done("update B b=a+c").table(0, 2, 1, 10).table(1, 3, 3, 8, 5);
        bench.done("delete A where a=3").done("delete B where a=1").table(0, 2, 1, 10).table(1, 3, 3, 8, 5);
        bench.done("select a from A where b=10 order b").result(1, 1);
    }

    private static void columnOfTheOneThatHasIt() {
        Bench.at("with two tables that of the one which has such a column, if the other has none");
        Bench bench = Bench.with("create A 2", "create B 3", "create C 4", "insert A 1,2", "insert B 3,4,5", "insert C 6,7,8,9");
        bench.done("select c from A,B").result(1, 5);
        bench.done("select c from B,A").result(1, 5);
        bench.done("select d from A,C").result(1, 9);
        bench.done("select d from C,B where d=9 order d").result(1, 9);
        bench.done("select c,d from C,A").result(2, 8, 9);
        bench.code("select b from A,B", NAME).code("select c from B,C", NAME).code("select a from A,C", NAME);
        bench.code("select d from A,B", NAME).code("select d from B,A", NAME);
        bench.done("select d from B,C").result(1, 9);
    }

    private static void columnOfTheTableNamed() {
        Bench.at("T . COL that of the statement's table T");
        Bench bench = Bench.with("create A 2", "create B 3", "insert A 1,2", "insert B 3,4,5");
        bench.done("select A.a,B.a,B.c from A,B").result(3, 1, 3, 5);
        bench.done("select A.b,B.b,c from B,A").result(3, 2, 4, 5);
        bench.done("select A.b from A").result(1, 2);
        bench.code("select A.c from A,B", NAME).code("select B.d from A,B", NAME).code("select C.a from A,B", NAME);
        bench.code("select B.a from A", NAME).code("select A.a from B", NAME).code("update A b=B.c", NAME);
        bench.done("update A b=A.a+A.b where A.a=1").table(0, 2, 1, 3);
        bench.code("update A b=1 where B.a=3", NAME).code("delete B where A.a=1", NAME).done("delete B where B.a=3").table(1, 3);
    }
}
