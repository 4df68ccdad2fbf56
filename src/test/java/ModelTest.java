import java.util.ArrayList;
import java.util.Comparator;
import java.util.HashSet;
import java.util.List;
import java.util.Random;
import java.util.Set;
import java.util.TreeMap;
import java.util.function.Function;
import java.util.regex.Matcher;
import java.util.regex.Pattern;

/** Many texts, right and wrong ones, held against a second reading of the document that is written as a tree. */
public final class ModelTest {
    private static final Long[] NO_ROW = new Long[4];

    record Tree(String kind, int number, int table, int column, List<Tree> kids) {
        static Tree of(String kind, Tree... kids) {
            return new Tree(kind, 0, -1, -1, List.of(kids));
        }
        Tree kid(int i) {
            return kids.get(i);
        }
    }

    static final class NoStatement extends RuntimeException {
        private static final long serialVersionUID = 1L;
    }

    static final class Fault extends RuntimeException {
        private static final long serialVersionUID = 1L;
        final int code;
        Fault(int code) {
            this.code = code;
        }
    }

    /** One table as the document tells it: rows by their key. */
    static final class Rows {
        int columns = 0;
        boolean[] indexed = new boolean[4];
        TreeMap<Long, Long[]> byKey = new TreeMap<>();
    }

    static final class Reader {
        static final Pattern TOKEN = Pattern.compile("[a-z]+|[ABC]|[0-9]+|[()\\[\\],.+\\-*/=<>]");
        final List<String> tokens = new ArrayList<>();
        int at = 0;

        Reader(String text) {
            Matcher m = TOKEN.matcher(text);
            int end = 0;
            while (m.find()) {
                if (!text.substring(end, m.start()).isBlank()) throw new NoStatement();
                if (Character.isDigit(m.group().charAt(0)) && m.group().length() > 9) throw new NoStatement();
                tokens.add(m.group());
                end = m.end();
            }
            if (!text.substring(end).isBlank()) throw new NoStatement();
        }
        String peek() {
            return at < tokens.size() ? tokens.get(at) : "";
        }
        boolean take(String token) {
            if (!peek().equals(token)) return false;
            at++;
            return true;
        }
        void need(String token) {
            if (!take(token)) throw new NoStatement();
        }
        String need(String pattern, boolean regex) {
            if (!peek().matches(pattern)) throw new NoStatement();
            return tokens.get(at++);
        }
        int table() {
            return need("[ABC]", true).charAt(0) - 'A';
        }
        int column() {
            return need("[abcd]", true).charAt(0) - 'a';
        }
        int number() {
            return Integer.parseInt(need("[0-9]+", true));
        }
        Tree e(int left) {
            Tree t = p(left);
            while (peek().matches("[+-]")) t = Tree.of(tokens.get(at++), t, p(left));
            return t;
        }
        Tree p(int left) {
            Tree t = f(left);
            while (peek().matches("[*/]")) t = Tree.of(tokens.get(at++), t, f(left));
            return t;
        }
        int less(int left) {
            if (left == 0) throw new NoStatement();
            return left - 1;
        }
        Tree f(int left) {
            if (take("(")) {
                Tree t = Tree.of("paren", e(less(left)));
                need(")");
                return t;
            }
            if (take("-")) return Tree.of("neg", f(less(left)));
            if (take("null")) return Tree.of("null");
            if (peek().matches("[0-9]+")) return new Tree("number", number(), -1, -1, List.of());
            int table = -1;
            if (peek().matches("[ABC]")) {
                table = table();
                need(".");
            }
            return new Tree("column", 0, table, column(), List.of());
        }
        Tree c(int left) {
            List<Tree> kids = new ArrayList<>(List.of(k(left)));
            while (take("or")) kids.add(k(left));
            return new Tree("or", 0, -1, -1, kids);
        }
        Tree k(int left) {
            List<Tree> kids = new ArrayList<>(List.of(n(left)));
            while (take("and")) kids.add(n(left));
            return new Tree("and", 0, -1, -1, kids);
        }
        Tree n(int left) {
            if (take("[")) {
                Tree t = Tree.of("bracket", c(less(left)));
                need("]");
                return t;
            }
            if (take("not")) return Tree.of("not", n(less(left)));
            Tree t = e(left);
            if (take("null")) return Tree.of("isnull", t);
            String sign = need("[=<>]", true);
            return Tree.of(sign, t, e(left));
        }
    }

    /** The second reading. */
    static final class Model {
        final Rows[] tables = {new Rows(), new Rows(), new Rows()};
        int rows, width, reads, plan;
        List<Long[]> result = new ArrayList<>();
        // Of the statement that is run.
        int[] named;
        Tree where;

        int run(String text) {
            rows = width = reads = plan = 0;
            result = new ArrayList<>();
            try {
                perform(new Reader(text));
                return 0;
            } catch (NoStatement s) {
                rows = width = reads = plan = 0;
                return 1;
            } catch (Fault f) {
                rows = width = reads = plan = 0;
                result = new ArrayList<>();
                return f.code;
            }
        }

        void perform(Reader r) {
            String verb = r.need("create|index|insert|update|delete|select", true);
            where = null;
            switch (verb) {
                case "create" -> create(r);
                case "index" -> index(r);
                case "insert" -> insert(r);
                case "update" -> update(r);
                case "delete" -> delete(r);
                default -> select(r);
            }
        }

        void end(Reader r) {
            if (r.at != r.tokens.size()) throw new NoStatement();
        }

        void where(Reader r) {
            if (r.take("where")) where = r.c(8);
        }

        void stand(int... numbers) {
            named = numbers;
            for (int n : numbers) if (tables[n].columns == 0) throw new Fault(2);
            if (numbers.length == 2 && numbers[0] == numbers[1]) throw new Fault(2);
        }

        void create(Reader r) {
            int t = r.table();
            int n = r.number();
            end(r);
            if (tables[t].columns > 0) throw new Fault(2);
            if (n < 1 || n > 4) throw new Fault(3);
            tables[t].columns = n;
        }

        void index(Reader r) {
            int t = r.table();
            int c = r.column();
            end(r);
            stand(t);
            if (c == 0 || c >= tables[t].columns || tables[t].indexed[c]) throw new Fault(2);
            tables[t].indexed[c] = true;
        }

        List<Tree> list(Reader r) {
            List<Tree> es = new ArrayList<>(List.of(r.e(8)));
            while (r.take(",")) es.add(r.e(8));
            return es;
        }

        void insert(Reader r) {
            int t = r.table();
            List<Tree> es = list(r);
            end(r);
            stand(t);
            for (Tree e : es) if (!columnsOf(e).isEmpty()) throw new Fault(2);
            if (es.size() != tables[t].columns) throw new Fault(3);
            Long[] row = new Long[4];
            for (int i = 0; i < es.size(); i++) row[i] = value(es.get(i), null);
            if (row[0] == null || tables[t].byKey.containsKey(row[0])) throw new Fault(4);
            if (tables[t].byKey.size() == 20) throw new Fault(5);
            tables[t].byKey.put(row[0], row);
            rows = 1;
        }

        void update(Reader r) {
            int t = r.table();
            int c = r.column();
            r.need("=");
            Tree e = r.e(8);
            where(r);
            end(r);
            stand(t);
            if (c >= tables[t].columns) throw new Fault(2);
            check(e);
            check(where);
            TreeMap<Long, Long[]> after = new TreeMap<>();
            int changed = 0;
            for (Long[] row : tables[t].byKey.values()) {
                Long[] fresh = row.clone();
                if (found(new Long[][] {row})) {
                    fresh[c] = value(e, new Long[][] {row});
                    changed++;
                }
                if (fresh[0] == null || after.put(fresh[0], fresh) != null) throw new Fault(4);
            }
            makePlan();
            tables[t].byKey = after;
            rows = changed;
        }

        void delete(Reader r) {
            int t = r.table();
            where(r);
            end(r);
            stand(t);
            check(where);
            makePlan();
            int before = tables[t].byKey.size();
            tables[t].byKey.values().removeIf(row -> found(new Long[][] {row}));
            rows = before - tables[t].byKey.size();
        }

        void select(Reader r) {
            List<Tree> es = list(r);
            r.need("from");
            if (es.size() > 3) throw new NoStatement();
            int first = r.table();
            int second = r.take(",") ? r.table() : -1;
            where(r);
            Tree order = r.take("order") ? r.e(8) : null;
            boolean desc = order != null && r.take("desc");
            int limit = r.take("limit") ? r.number() : Integer.MAX_VALUE;
            end(r);
            if (second < 0) stand(first);
            else stand(first, second);
            for (Tree e : es) check(e);
            check(where);
            check(order);
            List<Long[][]> pairs = new ArrayList<>();
            for (Long[] one : tables[first].byKey.values()) {
                if (second < 0) pairs.add(new Long[][] {one});
                else for (Long[] two : tables[second].byKey.values()) pairs.add(new Long[][] {one, two});
            }
            pairs.removeIf(pair -> !found(pair));
            if (pairs.size() > 60) throw new Fault(5);
            if (order != null) {
                Comparator<Long> up = Comparator.nullsFirst(Comparator.naturalOrder());
                Function<Long[][], Long> by = pair -> value(order, pair);
                pairs.sort(Comparator.comparing(by, desc ? up.reversed() : up));
            }
            for (int i = 0; i < pairs.size() && i < limit; i++) {
                Long[][] pair = pairs.get(i);
                result.add(es.stream().map(e -> value(e, pair)).toArray(Long[]::new));
            }
            makePlan();
            rows = result.size();
            width = es.size();
        }

        boolean found(Long[][] pair) {
            return where == null || Boolean.TRUE.equals(truth(where, pair));
        }

        List<Tree> columnsOf(Tree t) {
            List<Tree> all = new ArrayList<>();
            if (t.kind.equals("column")) all.add(t);
            for (Tree kid : t.kids) all.addAll(columnsOf(kid));
            return all;
        }

        /** The place in named of a column's table; -1 if it is not as it should be. */
        int side(Tree column) {
            int side = -1;
            for (int i = 0; i < named.length; i++) {
                boolean has = column.column < tables[named[i]].columns;
                if (column.table == named[i] && has) return i;
                if (column.table == -1 && has) {
                    if (side >= 0) return -1;
                    side = i;
                }
            }
            return side;
        }

        void check(Tree t) {
            if (t != null) for (Tree c : columnsOf(t)) if (side(c) < 0) throw new Fault(2);
        }

        Long value(Tree t, Long[][] pair) {
            switch (t.kind) {
                case "null": return null;
                case "number": return (long) t.number;
                case "column": return pair[side(t)][t.column];
                case "paren": return value(t.kid(0), pair);
                default:
            }
            Long x = t.kind.equals("neg") ? Long.valueOf(0) : value(t.kid(0), pair);
            Long y = value(t.kid(t.kids.size() - 1), pair);
            if (x == null || y == null) return null;
            return switch (t.kind) {
                case "+" -> (long) (int) (x + y);
                case "-", "neg" -> (long) (int) (x - y);
                case "*" -> (long) (int) (x * y);
                default -> y == 0 ? null : (Long) (long) (int) (x / y);
            };
        }

        Boolean truth(Tree t, Long[][] pair) {
            switch (t.kind) {
                case "bracket": return truth(t.kid(0), pair);
                case "isnull": return value(t.kid(0), pair) == null;
                case "not": {
                    Boolean b = truth(t.kid(0), pair);
                    return b == null ? null : !b;
                }
                case "or": case "and": {
                    boolean strong = t.kind.equals("or");
                    boolean unknown = false;
                    for (Tree kid : t.kids) {
                        Boolean b = truth(kid, pair);
                        if (b == null) unknown = true;
                        else if (b == strong) return strong;
                    }
                    return unknown ? null : (Boolean) !strong;
                }
                default:
            }
            Long x = value(t.kid(0), pair);
            Long y = value(t.kid(1), pair);
            if (x == null || y == null) return null;
            int order = x.compareTo(y);
            return t.kind.equals("=") ? order == 0 : t.kind.equals("<") ? order < 0 : order > 0;
        }

        List<Tree> parts() {
            if (where == null) return List.of();
            return where.kids.size() == 1 ? where.kid(0).kids : List.of(where);
        }

        Set<Integer> sides(Tree t) {
            Set<Integer> all = new HashSet<>();
            for (Tree c : columnsOf(t)) all.add(side(c));
            return all;
        }

        record Access(int kind, int column, Tree by, int size) { }

        Tree bare(Tree t) {
            return t.kind.equals("paren") ? bare(t.kid(0)) : t;
        }

        /** The E' by which a part fixes a column of a side (told in into), or null. */
        Tree fixes(Tree part, int side, Set<Integer> before, int[] into) {
            if (!part.kind.equals("=")) return null;
            for (int i = 0; i < 2; i++) {
                Tree lone = bare(part.kid(i));
                Tree by = part.kid(1 - i);
                if (lone.kind.equals("column") && side(lone) == side && !sides(by).contains(side)
                        && before.containsAll(sides(by))) {
                    into[0] = lone.column;
                    return by;
                }
            }
            return null;
        }

        Access access(int side, Set<Integer> before) {
            Rows table = tables[named[side]];
            int[] column = new int[1];
            for (int kind = 3; kind >= 2; kind--) {
                for (Tree part : parts()) {
                    Tree by = fixes(part, side, before, column);
                    if (by != null && (kind == 3 ? column[0] == 0 : table.indexed[column[0]])) {
                        return new Access(kind, column[0], by, kind == 3 ? 1 : (table.byKey.size() + 1) / 2);
                    }
                }
            }
            return new Access(1, 0, null, table.byKey.size());
        }

        List<Long[]> fetch(int side, Access access, Long[][] known) {
            List<Long[]> all = new ArrayList<>(tables[named[side]].byKey.values());
            if (access.kind > 1) {
                Long wanted = value(access.by, known);
                all.removeIf(row -> wanted == null || !wanted.equals(row[access.column]));
            }
            reads += all.size();
            return all;
        }

        void makePlan() {
            Access one = access(0, Set.of());
            if (named.length == 1) {
                fetch(0, one, null);
                plan = one.kind;
                return;
            }
            Access oneBehind = access(0, Set.of(1));
            Access two = access(1, Set.of());
            Access twoBehind = access(1, Set.of(0));
            int straight = one.size + one.size * twoBehind.size;
            int crossed = two.size + two.size * oneBehind.size;
            if (crossed < straight) {
                walk(1, two, oneBehind);
                plan = two.kind + 4 * oneBehind.kind + 16;
            } else {
                walk(0, one, twoBehind);
                plan = one.kind + 4 * twoBehind.kind;
            }
        }

        void walk(int first, Access outer, Access inner) {
            for (Long[] row : fetch(first, outer, null)) {
                Long[][] known = first == 0 ? new Long[][] {row, NO_ROW} : new Long[][] {NO_ROW, row};
                boolean goesOn = true;
                for (Tree part : parts()) {
                    if (!sides(part).contains(1 - first) && !Boolean.TRUE.equals(truth(part, known))) goesOn = false;
                }
                if (goesOn) fetch(1 - first, inner, known);
            }
        }
    }

    /** Makes texts that are mostly statements, and mostly of tables and columns that are there. */
    static final class Writer {
        final Random random;
        final Model model;
        int[] named = {0};
        /** So many turns fill the tables; with many, only two tables of few columns are filled, to the room's edge. */
        int fill = 14;

        Writer(Random random, Model model) {
            this.random = random;
            this.model = model;
        }

        boolean chance(int percent) {
            return random.nextInt(100) < percent;
        }
        String pick(String... all) {
            return all[random.nextInt(all.length)];
        }
        String name(int t) {
            return "" + (char) ('A' + t);
        }
        boolean fillsUp() {
            return fill > 14;
        }
        int someTable() {
            int t = random.nextInt(fillsUp() ? 2 : 3);
            for (int i = 0; i < 3 && model.tables[t].columns == 0 && chance(95); i++) t = (t + 1) % 3;
            return t;
        }
        String columnName(int t) {
            int columns = Math.max(1, model.tables[t].columns);
            int c = random.nextInt(4);
            if (model.tables[t].indexed[c] && chance(60)) return "" + (char) ('a' + c);
            return "" + (char) ('a' + (chance(98) ? random.nextInt(columns) : random.nextInt(4)));
        }
        String column() {
            int t = named[random.nextInt(named.length)];
            String c = columnName(t);
            if (chance(2)) return name(random.nextInt(3)) + "." + c;
            boolean free = named.length == 1 || model.tables[named[0] + named[1] - t == t ? t
                    : named[0] == t ? named[1] : named[0]].columns <= c.charAt(0) - 'a';
            return free && chance(80) || chance(1) ? c : name(t) + "." + c;
        }
        String number() {
            return chance(85) ? "" + random.nextInt(6) : chance(50) ? "" + random.nextInt(1000000000) : "999999999";
        }
        String leaf() {
            return chance(50) ? column() : chance(88) ? number() : "null";
        }
        String e(int depth) {
            if (depth == 0 || chance(55)) return leaf();
            return switch (random.nextInt(5)) {
                case 0 -> "(" + e(depth - 1) + ")";
                case 1 -> "-" + (chance(50) ? leaf() : "(" + e(depth - 1) + ")");
                default -> e(depth - 1) + pick("+", "-", "*", "/", " + ") + e(depth - 1);
            };
        }
        String n(int depth) {
            if (depth > 0 && chance(12)) return "[" + c(depth - 1) + "]";
            if (depth > 0 && chance(10)) return "not " + n(depth - 1);
            if (chance(8)) return e(1) + " null";
            if (chance(60)) {
                String lone = chance(85) ? column() : "(" + column() + ")";
                return chance(60) ? lone + "=" + e(1) : e(1) + " = " + lone;
            }
            return e(1) + pick("=", "<", ">", "<", ">") + e(1);
        }
        /** A part that, more often than others, fixes a column of a table, by a number or by the other table. */
        String fixing(int t, int other) {
            boolean byOther = other != t && chance(40);
            return name(t) + "." + columnName(t) + "=" + (byOther ? name(other) + "." + columnName(other) : "" + random.nextInt(5));
        }
        String c(int depth) {
            int last = named[named.length - 1];
            String text = chance(75) ? n(depth) : fixing(last, named[0]) + (chance(60) ? " and " + fixing(named[0], last) : "");
            for (int i = 0; i < 3 && chance(40); i++) text += (chance(75) ? " and " : " or ") + n(depth);
            return text;
        }
        String where() {
            return chance(75) ? " where " + c(2) : "";
        }
        String create() {
            if (fillsUp()) return "create" + (model.tables[0].columns == 0 ? "A" : "B") + 1;
            return "create" + pick("", " ") + name(random.nextInt(3)) + (chance(80) ? 2 + random.nextInt(3) : random.nextInt(7));
        }
        String index() {
            int t = someTable();
            return "index " + name(t) + columnName(t);
        }
        String insert() {
            int t = someTable();
            if (fillsUp() && model.tables[t].columns == 1 && chance(90)) return "insert" + name(t) + random.nextInt(90);
            int columns = chance(97) ? Math.max(1, model.tables[t].columns) : 1 + random.nextInt(5);
            String text = "insert" + name(t);
            for (int i = 0; i < columns; i++) {
                String plain = chance(88) ? "" + random.nextInt(i == 0 ? 30 : 5) : "null";
                text += (i == 0 ? "" : ",") + (chance(90) && !(i == 0 && plain.equals("null")) ? plain : "-" + random.nextInt(9) + "*3");
            }
            return text + (chance(2) ? "+a" : "");
        }
        String change() {
            int t = someTable();
            named = new int[] {t};
            if (chance(25)) return "delete " + name(t) + where();
            return "update " + name(t) + " " + columnName(t) + "=" + e(2) + where();
        }
        String select() {
            int t = someTable();
            named = new int[] {t};
            if (chance(65)) {
                int u = someTable();
                if (u == t && chance(95)) u = (t + 1) % 3;
                if (model.tables[u].columns > 0 || chance(10)) named = new int[] {t, u};
            }
            String text = "select " + e(1);
            for (int i = 0; i < 3 && chance(25); i++) text += "," + e(1);
            text += " from " + name(t) + (named.length == 2 ? "," + name(named[1]) : "") + where();
            if (chance(35)) text += " order " + e(1) + (chance(50) ? " desc" : "");
            if (chance(20)) text += " limit " + random.nextInt(9);
            return text;
        }
        String spoilt(String text) {
            int i = random.nextInt(text.length() + 1);
            String rest = i < text.length() ? text.substring(i + 1) : "";
            return switch (random.nextInt(4)) {
                case 0 -> text.substring(0, i) + rest;
                case 1 -> text.substring(0, i) + (char) (32 + random.nextInt(95)) + rest;
                case 2 -> text.substring(0, i) + pick("(", ")", "[", "]", "-", " ", ",", "null", "not ", "a", "0", "B.", "D") + text.substring(i);
                default -> text.substring(0, i);
            };
        }
        /** Tokens as they come, now and then behind the beginning of a statement. */
        String soup() {
            String text = pick("", "select ", "select a from A where ", "update A b=", "delete A where ", "insert A ");
            for (int i = random.nextInt(12); i >= 0; i--) {
                text += pick("a", "b", "A", "B", "1", "0", "null", "(", ")", "[", "]", ",", ".", "+", "-", "*", "/", "=", "<", ">", "not", "and",
                        "or", "from", "where", "order", "desc", "limit", "=1", "a=", "A.a", "B.b") + pick("", " ", " ");
            }
            return text;
        }
        String text(int turn) {
            int kind = random.nextInt(100);
            String text = turn < 2 ? create() : turn < 5 && !fillsUp() ? index() : turn < fill ? (fillsUp() ? insert() : kind < 10 ? index() : kind < 15 ? create() : insert())
                    : kind < 5 ? create() : kind < 10 ? index() : kind < 25 ? insert() : kind < 45 ? change() : select();
            if (chance(4)) text = spoilt(text);
            if (turn >= fill && chance(5)) text = soup();
            return text.length() > 80 ? text.substring(0, 80) : text;
        }
    }

    static long told(Long value) {
        return value == null ? QueryTables.NULL : value;
    }

    static int checkTables(QueryTables x, Model model, Random random, String text) {
        for (int k = 0; k < 4; k++) {
            int t = random.nextInt(3);
            int c = random.nextInt(4);
            Rows rows = model.tables[t];
            List<Long[]> all = new ArrayList<>(rows.byKey.values());
            int row = random.nextInt(all.size() + 1);
            boolean there = row < all.size() && c < rows.columns;
            Bench.due("cell behind " + text, x.cell(t, row, c), there ? told(all.get(row)[c]) : QueryTables.NOTHING);
            Long sought = all.isEmpty() ? (Long) 1L : all.get(random.nextInt(all.size()))[c];
            long count = c < rows.columns ? all.stream().filter(r -> told(r[c]) == told(sought)).count() : 0;
            Bench.due("count behind " + text, x.count(t, c, told(sought)), count);
        }
        int t = random.nextInt(3);
        int c = random.nextInt(4);
        Bench.due("size behind " + text, x.size(t), model.tables[t].byKey.size());
        Bench.due("columns behind " + text, x.columns(t), model.tables[t].columns);
        Bench.due("indexed behind " + text, x.indexed(t, c), model.tables[t].indexed[c]);
        return 11;
    }

    static int checkResult(QueryTables x, Model model, Random random, String text) {
        Bench.due("rows behind " + text, x.rows(), model.rows);
        Bench.due("width behind " + text, x.width(), model.width);
        Bench.due("reads behind " + text, x.reads(), model.reads);
        Bench.due("plan behind " + text, x.plan(), model.plan);
        int from = random.nextInt(Math.max(1, model.result.size() - 4));
        for (int r = from; r < from + 5; r++) {
            for (int c = 0; c < model.width; c++) {
                long want = r < model.result.size() ? told(model.result.get(r)[c]) : QueryTables.NOTHING;
                Bench.due("value " + r + " " + c + " behind " + text, x.value(r, c), want);
            }
        }
        return 4 + 5 * model.width;
    }

    /** One object, used for no more than the 512 calls that the document tells. */
    static void oneObject(int seed, int[] codes, int[] plans) {
        Bench.at("object " + seed);
        Random random = new Random(seed);
        QueryTables x = new QueryTables();
        Model model = new Model();
        Writer writer = new Writer(random, model);
        writer.fill = seed % 4 == 0 ? 24 : 14;
        int calls = 0;
        for (int turn = 0; turn < 60; turn++) {
            String text = writer.text(turn);
            if (calls + text.length() + 31 > 512) return;
            for (char c : text.toCharArray()) Bench.due("type", x.type(c), true);
            int want = model.run(text);
            Bench.due("run of " + text, x.run(), want);
            codes[want]++;
            plans[model.plan]++;
            calls += text.length() + 1;
            if (turn >= writer.fill) {
                calls += checkResult(x, model, random, text) + checkTables(x, model, random, text);
            }
        }
    }

    public static void main(String[] args) {
        int objects = args.length > 0 ? Integer.parseInt(args[0]) : 15000;
        int[] codes = new int[6];
        int[] plans = new int[32];
        for (int seed = 1; seed <= objects; seed++) oneObject(seed, codes, plans);
        for (int code = 0; code < 6; code++) {
            System.out.println("code " + code + ": " + codes[code] + " runs");
            Bench.due("code " + code + " comes", codes[code] > 0, true);
        }
        for (int plan = 1; plan < 32; plan++) {
            boolean possible = plan < 4 || plan % 4 > 0 && plan / 4 % 4 > 0;
            if (possible) System.out.println("plan " + plan + ": " + plans[plan] + " runs");
            Bench.due("plan " + plan + " comes", plans[plan] > 0, possible);
        }
        Bench.end();
    }
}
