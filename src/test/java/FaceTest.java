import java.lang.reflect.Constructor;
import java.lang.reflect.Field;
import java.lang.reflect.Method;
import java.lang.reflect.Modifier;
import java.util.TreeSet;

/** The section "The public face" line by line, and what the document says of each constant. */
public final class FaceTest {
    private static final int OPEN_CONSTANT = Modifier.PUBLIC | Modifier.STATIC | Modifier.FINAL;
    private static final String[] METHODS = {"long cell(int,int,int)", "int columns(int)", "int count(int,int,long)",
        "boolean erase()", "boolean indexed(int,int)", "int length()", "int plan()", "int reads()", "int rows()", "int run()",
        "int size(int)", "boolean type(char)", "long value(int,int)", "int width()"};
    private static final String[] CONSTANTS = {"COUNT", "DONE", "KEY", "NAME", "NOTHING", "NULL", "ROOM", "SYNTAX"};

    public static void main(String[] args) throws ReflectiveOperationException {
        theClass();
        theConstants();
        theConstructor();
        theMethods();
        doneIsCarriedOut();
        syntaxIsNoStatement();
        nameIsNotAsItShouldBe();
        countIsNotAsItShouldBe();
        keyWouldBeNullOrTwice();
        roomIsNotThere();
        nullIsToldSo();
        nothingIsToldSo();
        Bench.end();
    }

    private static void theClass() {
        Bench.at("public final class QueryTables");
        Bench.due("modifiers", QueryTables.class.getModifiers(), Modifier.PUBLIC | Modifier.FINAL);
        Bench.due("a package", QueryTables.class.getPackageName().isEmpty(), true);
        Bench.due("nothing above it", QueryTables.class.getSuperclass() == Object.class, true);
        Bench.due("interfaces", QueryTables.class.getInterfaces().length, 0);
    }

    private static void theConstants() throws ReflectiveOperationException {
        Bench.at("public static final int DONE = 0; .. long NOTHING = 1L << 41;");
        String[] codes = {"DONE", "SYNTAX", "NAME", "COUNT", "KEY", "ROOM"};
        for (int i = 0; i < codes.length; i++) {
            constant(codes[i], int.class, i);
        }
        constant("NULL", long.class, 1099511627776L);
        constant("NOTHING", long.class, 2199023255552L);
        TreeSet<String> open = new TreeSet<>();
        for (Field f : QueryTables.class.getDeclaredFields()) {
            if (!Modifier.isPrivate(f.getModifiers())) {
                open.add(f.getName());
            }
        }
        Bench.due("the constants are " + open, String.join(" ", open).equals(String.join(" ", CONSTANTS)), true);
    }

    private static void constant(String name, Class<?> type, long value) throws ReflectiveOperationException {
        Field f = QueryTables.class.getField(name);
        Bench.due("modifiers of " + name, f.getModifiers(), OPEN_CONSTANT);
        Bench.due("type of " + name, f.getType() == type, true);
        Bench.due(name, f.getLong(null), value);
    }

    private static void theConstructor() {
        Bench.at("public QueryTables()");
        Constructor<?>[] all = QueryTables.class.getDeclaredConstructors();
        Bench.due("constructors", all.length, 1);
        Bench.due("modifiers", all[0].getModifiers(), Modifier.PUBLIC);
        Bench.due("parameters", all[0].getParameterCount(), 0);
        Bench.due("exceptions", all[0].getExceptionTypes().length, 0);
    }

    private static void theMethods() {
        Bench.at("public boolean type(char c); .. int count(int t, int c, long v);");
        TreeSet<String> open = new TreeSet<>();
        for (Method m : QueryTables.class.getDeclaredMethods()) {
            if (!Modifier.isPrivate(m.getModifiers())) {
                Bench.due("modifiers of " + m, m.getModifiers(), Modifier.PUBLIC);
                Bench.due("exceptions of " + m, m.getExceptionTypes().length, 0);
                String all = m.toString();
                open.add(m.getReturnType() + " " + all.substring(all.indexOf(m.getName() + "(")));
            }
        }
        for (String method : METHODS) {
            Bench.due(method + " is there", open.remove(method), true);
        }
        Bench.due("and no other: " + open, open.isEmpty(), true);
    }

    private static Bench two() {
        return Bench.with("create A 2", "insert A 1,null");
    }

    private static void doneIsCarriedOut() {
        Bench.at("DONE: The text was carried out");
        Bench bench = two().code("insert A 2,5", QueryTables.DONE).table(0, 2, 1, QueryTables.NULL, 2, 5);
        bench.code("update A b=7 where a=1", QueryTables.DONE).code("delete A where a=2", QueryTables.DONE).table(0, 2, 1, 7);
        bench.code("select b from A", QueryTables.DONE).result(1, 7);
        bench.code("index A b", QueryTables.DONE).code("create B 3", QueryTables.DONE).table(1, 3);
        Bench.due("indexed", bench.x.indexed(0, 1), true);
    }

    private static void syntaxIsNoStatement() {
        Bench.at("SYNTAX: The text is no statement");
        two().codes(QueryTables.SYNTAX, "", "insert A", "insert A 2 5", "insert D 2,5", "hello").table(0, 2, 1, QueryTables.NULL);
    }

    private static void nameIsNotAsItShouldBe() {
        Bench.at("NAME: A table or column is not as it should be");
        two().codes(QueryTables.NAME, "create A 1", "delete B", "select c from A", "index A a").table(0, 2, 1, QueryTables.NULL);
    }

    private static void countIsNotAsItShouldBe() {
        Bench.at("COUNT: A number of columns is not as it should be");
        Bench bench = two().codes(QueryTables.COUNT, "create B 0", "create B 5", "insert A 2", "insert A 2,5,6");
        bench.table(0, 2, 1, QueryTables.NULL);
        Bench.due("columns of B", bench.x.columns(1), 0);
    }

    private static void keyWouldBeNullOrTwice() {
        Bench.at("KEY: A key would be NULL, or there twice");
        two().codes(QueryTables.KEY, "insert A null,5", "insert A 1,5", "update A a=b").table(0, 2, 1, QueryTables.NULL);
        two().done("insert A 2,2").codes(QueryTables.KEY, "update A a=2", "update A a=1 where a=2").table(0, 2, 1, QueryTables.NULL, 2, 2);
    }

    private static void roomIsNotThere() {
        Bench.at("ROOM: There is no room");
        Bench bench = Bench.filled(20).code("insertA20", QueryTables.ROOM).done("createB1").done("insertB1").done("insertB2");
        bench.answers("select B.a from A,B", 40, 21, 2 + 40).done("insertB3").answers("select B.a from A,B", 60, 21, 3 + 60);
        bench.done("insertB4").code("select B.a from A,B", QueryTables.ROOM);
    }

    private static void nullIsToldSo() {
        Bench.at("NULL: How the value NULL is told");
        Bench bench = two().done("select b,null,1/0 from A").result(3, QueryTables.NULL, QueryTables.NULL, QueryTables.NULL);
        Bench.due("cell", bench.x.cell(0, 0, 1), QueryTables.NULL);
        Bench.due("count", bench.x.count(0, 1, QueryTables.NULL), 1);
    }

    private static void nothingIsToldSo() {
        Bench.at("NOTHING: Told where there is nothing");
        Bench bench = two().done("select b from A");
        Bench.due("value of no row", bench.x.value(1, 0), QueryTables.NOTHING);
        Bench.due("value of no column", bench.x.value(0, 1), QueryTables.NOTHING);
        Bench.due("cell of no row", bench.x.cell(0, 1, 0), QueryTables.NOTHING);
        Bench.due("cell of no column", bench.x.cell(0, 0, 2), QueryTables.NOTHING);
        Bench.due("cell of no table", bench.x.cell(1, 0, 0), QueryTables.NOTHING);
    }
}
