/** A small engine for tables that is worked by text; the document's promises say what each call answers. */
public final class QueryTables {
    public static final int DONE = 0;
    public static final int SYNTAX = 1;
    public static final int NAME = 2;
    public static final int COUNT = 3;
    public static final int KEY = 4;
    public static final int ROOM = 5;
    public static final long NULL = 1L << 40;
    public static final long NOTHING = 1L << 41;

    private static final int TEXT_ROOM = 80;
    private static final int TABLE_ROOM = 3;
    private static final int COLUMN_ROOM = 4;
    private static final int ROW_ROOM = 20;
    private static final int RESULT_ROOM = 60;
    private static final int SELECT_ROOM = 3;
    private static final int NONE = -1;

    private final char[] text;
    private final Table[] tables;
    private final Statement statement;
    private final Code code;
    private final Pair pair;
    private final Parser parser;
    private final Checker checker;
    private final Search search;
    private final long[] results;
    private final long[] line;
    private int typed;
    private int answeredRows;
    private int answeredWidth;
    private int answeredReads;
    private int answeredPlan;

    public QueryTables() {
        text = new char[TEXT_ROOM];
        tables = new Table[TABLE_ROOM];
        for (int t = 0; t < TABLE_ROOM; t++) {
            tables[t] = new Table();
        }
        statement = new Statement();
        code = new Code();
        pair = new Pair(tables[0]);
        parser = new Parser(statement, code);
        checker = new Checker(tables, statement, code);
        search = new Search(statement, code, pair);
        results = new long[RESULT_ROOM * SELECT_ROOM];
        line = new long[ROW_ROOM];
    }

    public boolean type(char c) {
        if (c < 32 || c > 126 || typed >= TEXT_ROOM) {
            return false;
        }
        text[typed] = c;
        typed++;
        return true;
    }

    public boolean erase() {
        if (typed == 0) {
            return false;
        }
        typed--;
        return true;
    }

    public int run() {
        forgetAnswers();
        boolean understood = parser.begin(text, typed) && parser.wholeStatement() && parser.isAtEnd();
        typed = 0;
        return understood ? carryOut() : SYNTAX;
    }

    public int length() {
        return typed;
    }

    public int rows() {
        return answeredRows;
    }

    public int width() {
        return answeredWidth;
    }

    public long value(int r, int c) {
        if (r < 0 || r >= answeredRows || c < 0 || c >= answeredWidth) {
            return NOTHING;
        }
        return results[r * SELECT_ROOM + c];
    }

    public int reads() {
        return answeredReads;
    }

    public int plan() {
        return answeredPlan;
    }

    public int columns(int t) {
        return isTable(t) ? tables[t].across : 0;
    }

    public int size(int t) {
        return isTable(t) ? tables[t].down : 0;
    }

    public boolean indexed(int t, int c) {
        return isTable(t) && tables[t].hasIndex(c);
    }

    public long cell(int t, int k, int c) {
        return isTable(t) ? tables[t].get(k, c) : NOTHING;
    }

    public int count(int t, int c, long v) {
        return isTable(t) && tables[t].hasColumn(c) ? tables[t].rowsWith(c, v) : 0;
    }

    private static boolean isTable(int t) {
        return t >= 0 && t < TABLE_ROOM;
    }

    private void forgetAnswers() {
        answeredRows = 0;
        answeredWidth = 0;
        answeredReads = 0;
        answeredPlan = 0;
    }

    private int carryOut() {
        int fault = checker.fault();
        if (fault != DONE) {
            return fault;
        }
        Table table = tables[statement.first];
        if (statement.hasPlan()) {
            pair.stand(table, statement.second == NONE ? table : tables[statement.second]);
            search.choosePlan();
            search.findAll();
        }
        int end = effect(table);
        if (end == DONE && statement.hasPlan()) {
            answeredReads = search.fetched;
            answeredPlan = search.planNumber();
        }
        return end;
    }

    private int effect(Table table) {
        switch (statement.verb) {
            case Tokens.CREATE:
                table.make(statement.number);
                return DONE;
            case Tokens.INDEX:
                table.addIndex(statement.column);
                return DONE;
            case Tokens.INSERT:
                return insert(table);
            case Tokens.UPDATE:
                return update(table);
            case Tokens.DELETE:
                return delete(table);
            default:
                return select();
        }
    }

    private int insert(Table table) {
        for (int c = 0; c < statement.listed && c < COLUMN_ROOM; c++) {
            line[c] = code.work(statement.listFrom(c), statement.listTo(c), pair);
        }
        if (line[0] == NULL || table.rowsWith(0, line[0]) > 0) {
            return KEY;
        }
        if (table.down >= ROW_ROOM) {
            return ROOM;
        }
        table.addRow(line);
        answeredRows = 1;
        return DONE;
    }

    private int update(Table table) {
        table.copyColumn(statement.column, line);
        for (int k = 0; k < search.found && k < ROW_ROOM; k++) {
            search.goTo(k);
            line[pair.rowOf(0)] = code.work(statement.listFrom(0), statement.listTo(0), pair);
        }
        if (statement.column == 0 && !areKeys(line, table.down)) {
            return KEY;
        }
        table.putColumn(statement.column, line);
        answeredRows = search.found;
        return DONE;
    }

    private static boolean areKeys(long[] values, int amount) {
        for (int i = 0; i < amount && i < values.length; i++) {
            if (values[i] == NULL) {
                return false;
            }
            for (int j = 0; j < i; j++) {
                if (values[i] == values[j]) {
                    return false;
                }
            }
        }
        return true;
    }

    private int delete(Table table) {
        // From the last one on, so that the rows still to go keep their places.
        for (int k = search.found - 1; k >= 0; k--) {
            search.goTo(k);
            table.removeRow(pair.rowOf(0));
        }
        answeredRows = search.found;
        return DONE;
    }

    private int select() {
        if (search.found > RESULT_ROOM) {
            return ROOM;
        }
        answeredRows = Math.min(search.found, statement.limit);
        answeredWidth = statement.listed;
        for (int r = 0; r < answeredRows; r++) {
            search.goTo(r);
            for (int c = 0; c < answeredWidth && c < SELECT_ROOM; c++) {
                results[r * SELECT_ROOM + c] = code.work(statement.listFrom(c), statement.listTo(c), pair);
            }
        }
        return DONE;
    }

    /** The rows of a table, always in the order of their keys. It is there when it has columns. */
    private static final class Table {
        private final long[] cells = new long[ROW_ROOM * COLUMN_ROOM];
        private final boolean[] indexes = new boolean[COLUMN_ROOM];
        private int across;
        private int down;

        boolean isThere() {
            return across > 0;
        }

        boolean hasColumn(int c) {
            return c >= 0 && c < across;
        }

        boolean hasIndex(int c) {
            return hasColumn(c) && indexes[c];
        }

        long get(int row, int c) {
            boolean there = row >= 0 && row < down && c >= 0 && c < across;
            return there ? cells[row * COLUMN_ROOM + c] : NOTHING;
        }

        int rowsWith(int c, long value) {
            int amount = 0;
            for (int row = 0; row < down; row++) {
                if (cells[row * COLUMN_ROOM + c] == value) {
                    amount++;
                }
            }
            return amount;
        }

        void make(int columns) {
            across = columns;
        }

        void addIndex(int c) {
            if (hasColumn(c)) {
                indexes[c] = true;
            }
        }

        void addRow(long[] values) {
            if (down >= ROW_ROOM) {
                return;
            }
            for (int c = 0; c < across; c++) {
                cells[down * COLUMN_ROOM + c] = values[c];
            }
            down++;
            sink(down - 1);
        }

        void removeRow(int row) {
            if (row < 0 || row >= down) {
                return;
            }
            int from = (row + 1) * COLUMN_ROOM;
            System.arraycopy(cells, from, cells, row * COLUMN_ROOM, down * COLUMN_ROOM - from);
            down--;
        }

        void copyColumn(int c, long[] into) {
            for (int row = 0; row < down; row++) {
                into[row] = cells[row * COLUMN_ROOM + c];
            }
        }

        void putColumn(int c, long[] values) {
            for (int row = 0; row < down; row++) {
                cells[row * COLUMN_ROOM + c] = values[row];
            }
            for (int row = 1; row < down; row++) {
                sink(row);
            }
        }

        /** Brings a row to its place among those ahead of it, which are in order. */
        private void sink(int row) {
            for (int k = row; k > 0 && cells[(k - 1) * COLUMN_ROOM] > cells[k * COLUMN_ROOM]; k--) {
                swapWithEarlier(k * COLUMN_ROOM);
            }
        }

        private void swapWithEarlier(int from) {
            for (int i = from; i < from + COLUMN_ROOM; i++) {
                long moved = cells[i];
                cells[i] = cells[i - COLUMN_ROOM];
                cells[i - COLUMN_ROOM] = moved;
            }
        }
    }

    /** The statement's tables, side 0 being the one it names first, and the row that is looked at in each. */
    private static final class Pair {
        private final int[] rows = new int[2];
        private Table first;
        private Table second;

        Pair(Table any) {
            first = any;
            second = any;
        }

        void stand(Table firstNamed, Table secondNamed) {
            first = firstNamed;
            second = secondNamed;
            rows[0] = 0;
            rows[1] = 0;
        }

        Table tableOf(int side) {
            return side == 0 ? first : second;
        }

        int rowOf(int side) {
            return side == 0 ? rows[0] : rows[1];
        }

        void move(int side, int row) {
            rows[side == 0 ? 0 : 1] = row;
        }
    }

    /**
     * All E and C of a statement as one row of steps, operands ahead of their operator: so parentheses leave no step,
     * and an E of one step is what stands in it.
     */
    private static final class Code {
        private static final int MINUS = 30;
        private static final int IS_NULL = 31;
        // In this order "and" is the lesser of two truths, "or" the greater, and "not" the distance from TRUE.
        private static final long FALSE = 0;
        private static final long UNKNOWN = 1;
        private static final long TRUE = 2;

        private final int[] steps = new int[TEXT_ROOM];
        private final int[] numbers = new int[TEXT_ROOM];
        private final int[] owners = new int[TEXT_ROOM];
        private final int[] sides = new int[TEXT_ROOM];
        private final long[] stack = new long[TEXT_ROOM];
        private int used;

        void clear() {
            used = 0;
        }

        void addOperator(int step) {
            add(step, 0, NONE);
        }

        void add(int step, int number, int owner) {
            // A step stands for a token of its own, so the room of the text is enough.
            if (used < TEXT_ROOM) {
                steps[used] = step;
                numbers[used] = number;
                owners[used] = owner;
                sides[used] = 0;
                used++;
            }
        }

        boolean isColumn(int at) {
            return at >= 0 && at < used && steps[at] == Tokens.COLUMN;
        }

        /** The sides that have columns in these steps: 1 for side 0, 2 for side 1, 3 for both. */
        int sidesIn(int from, int to) {
            int mask = 0;
            for (int i = from; i < to; i++) {
                if (isColumn(i)) {
                    mask |= 1 << sides[i];
                }
            }
            return mask;
        }

        /** The column of a side that is all of these steps, or NONE. */
        int loneColumn(int from, int to, int side) {
            return to - from == 1 && isColumn(from) && sides[from] == side ? numbers[from] : NONE;
        }

        long work(int from, int to, Pair pair) {
            int top = 0;
            for (int i = Math.max(from, 0); i < to && i < used; i++) {
                int operands = operandsOf(steps[i]);
                if (operands == 0 && top < TEXT_ROOM) {
                    stack[top] = leaf(i, pair);
                    top++;
                } else if (operands == 1 && top > 0) {
                    stack[top - 1] = turned(steps[i], stack[top - 1]);
                } else if (operands == 2 && top > 1) {
                    top--;
                    stack[top - 1] = joined(steps[i], stack[top - 1], stack[top]);
                }
            }
            return top > 0 ? stack[0] : NULL;
        }

        private static int operandsOf(int step) {
            switch (step) {
                case Tokens.NUMBER:
                case Tokens.NULL_WORD:
                case Tokens.COLUMN:
                    return 0;
                case MINUS:
                case IS_NULL:
                case Tokens.NOT:
                    return 1;
                default:
                    return 2;
            }
        }

        private long leaf(int at, Pair pair) {
            if (steps[at] == Tokens.COLUMN) {
                return pair.tableOf(sides[at]).get(pair.rowOf(sides[at]), numbers[at]);
            }
            return steps[at] == Tokens.NUMBER ? numbers[at] : NULL;
        }

        private static long turned(int step, long operand) {
            switch (step) {
                case MINUS:
                    return operand == NULL ? NULL : -(int) operand;
                case IS_NULL:
                    return operand == NULL ? TRUE : FALSE;
                default:
                    return TRUE - operand;
            }
        }

        private static long joined(int step, long left, long right) {
            if (step == Tokens.AND) {
                return Math.min(left, right);
            }
            if (step == Tokens.OR) {
                return Math.max(left, right);
            }
            boolean compares = step == '=' || step == '<' || step == '>';
            if (left == NULL || right == NULL) {
                return compares ? UNKNOWN : NULL;
            }
            return compares ? compared(step, left, right) : reckoned(step, (int) left, (int) right);
        }

        private static long compared(int sign, long left, long right) {
            boolean holds = sign == '=' ? left == right : sign == '<' ? left < right : left > right;
            return holds ? TRUE : FALSE;
        }

        private static long reckoned(int sign, int left, int right) {
            switch (sign) {
                case '+':
                    return left + right;
                case '-':
                    return left - right;
                case '*':
                    return left * right;
                default:
                    return right == 0 ? NULL : left / right;
            }
        }
    }

    /** What the text says; an E or C is told by where its steps stand in the code. */
    private static final class Statement {
        private final int[] listEnds = new int[TEXT_ROOM];
        private final int[] partFrom = new int[TEXT_ROOM];
        private final int[] partMiddle = new int[TEXT_ROOM];
        private final int[] partTo = new int[TEXT_ROOM];
        private int verb;
        private int first;
        private int second;
        private int column;
        private int number;
        private int listed;
        private int whereFrom;
        private int whereTo;
        private int orderFrom;
        private int orderTo;
        private boolean descending;
        private int limit;
        private int parts;

        void clear() {
            verb = Tokens.END;
            first = 0;
            second = NONE;
            column = 0;
            number = 0;
            listed = 0;
            whereFrom = 0;
            whereTo = 0;
            orderFrom = 0;
            orderTo = 0;
            descending = false;
            limit = Integer.MAX_VALUE;
            parts = 0;
        }

        void addListed(int end) {
            if (listed < TEXT_ROOM) {
                listEnds[listed] = end;
                listed++;
            }
        }

        /** The list is the first thing of a statement that has steps. */
        int listFrom(int at) {
            return at > 0 && at <= listed ? listEnds[at - 1] : 0;
        }

        int listTo(int at) {
            return at >= 0 && at < listed ? listEnds[at] : 0;
        }

        /** Notes a part; its middle is where E' begins if it is E = E', and NONE otherwise. */
        void addPart(int from, int middle, int to) {
            if (parts < TEXT_ROOM) {
                partFrom[parts] = from;
                partMiddle[parts] = middle;
                partTo[parts] = to;
                parts++;
            }
        }

        void setOnlyPart(int from, int to) {
            parts = 0;
            addPart(from, NONE, to);
        }

        boolean hasPlan() {
            return verb == Tokens.UPDATE || verb == Tokens.DELETE || verb == Tokens.SELECT;
        }

        boolean hasWhere() {
            return whereTo > whereFrom;
        }

        boolean hasOrder() {
            return orderTo > orderFrom;
        }
    }

    /** The text cut into tokens, which are then taken one behind the other. A sign's kind is its character. */
    private static final class Tokens {
        private static final int END = 0;
        private static final int TABLE = 1;
        private static final int NUMBER = 2;
        private static final int COLUMN = 3;
        private static final int CREATE = 4;
        private static final int INDEX = 5;
        private static final int INSERT = 6;
        private static final int UPDATE = 7;
        private static final int DELETE = 8;
        private static final int SELECT = 9;
        private static final int FROM = 10;
        private static final int WHERE = 11;
        private static final int ORDER = 12;
        private static final int DESC = 13;
        private static final int LIMIT = 14;
        private static final int NULL_WORD = 15;
        private static final int OR = 16;
        private static final int AND = 17;
        private static final int NOT = 18;
        private static final int DIGIT_ROOM = 9;
        private static final String SIGNS = "()[],.+-*/=<>";

        private final int[] kinds = new int[TEXT_ROOM];
        private final int[] numbers = new int[TEXT_ROOM];
        private int amount;
        private int at;

        /** Answers whether the text consists of tokens that can stand in a statement. */
        boolean split(char[] text, int end) {
            amount = 0;
            at = 0;
            for (int i = 0; i < end; i++) {
                if (text[i] != ' ' && !goesOn(text, i) && !addToken(text, i, end)) {
                    return false;
                }
            }
            return true;
        }

        int next() {
            return at < amount ? kinds[at] : END;
        }

        boolean accept(int kind) {
            if (at >= amount || kinds[at] != kind) {
                return false;
            }
            at++;
            return true;
        }

        /** The number, table or column that the token taken last tells. */
        int taken() {
            return at > 0 ? numbers[at - 1] : 0;
        }

        private static boolean isLetter(char c) {
            return c >= 'a' && c <= 'z';
        }

        private static boolean isDigit(char c) {
            return c >= '0' && c <= '9';
        }

        private static boolean goesOn(char[] text, int i) {
            if (i == 0) {
                return false;
            }
            return isLetter(text[i]) && isLetter(text[i - 1]) || isDigit(text[i]) && isDigit(text[i - 1]);
        }

        private boolean addToken(char[] text, int from, int end) {
            char c = text[from];
            if (isLetter(c)) {
                return addWord(text, from, end);
            }
            if (isDigit(c)) {
                return addNumber(text, from, end);
            }
            if (c >= 'A' && c <= 'C') {
                return keep(TABLE, c - 'A');
            }
            return SIGNS.indexOf(c) >= 0 && keep(c, 0);
        }

        private boolean addNumber(char[] text, int from, int end) {
            int number = 0;
            int to = from;
            for (; to < end && isDigit(text[to]); to++) {
                number = number * 10 + (text[to] - '0');
            }
            return to - from <= DIGIT_ROOM && keep(NUMBER, number);
        }

        private boolean addWord(char[] text, int from, int end) {
            int to = from;
            while (to < end && isLetter(text[to])) {
                to++;
            }
            if (to - from == 1) {
                return text[from] <= 'd' && keep(COLUMN, text[from] - 'a');
            }
            int kind = verbKind(text, from, to);
            if (kind == NONE) {
                kind = innerWordKind(text, from, to);
            }
            return kind != NONE && keep(kind, 0);
        }

        private boolean keep(int kind, int number) {
            if (amount >= TEXT_ROOM) {
                return false;
            }
            kinds[amount] = kind;
            numbers[amount] = number;
            amount++;
            return true;
        }

        /** The words that a statement begins with. */
        private static int verbKind(char[] text, int from, int to) {
            if (spells(text, from, to, "create")) {
                return CREATE;
            }
            if (spells(text, from, to, "index")) {
                return INDEX;
            }
            if (spells(text, from, to, "insert")) {
                return INSERT;
            }
            if (spells(text, from, to, "update")) {
                return UPDATE;
            }
            if (spells(text, from, to, "delete")) {
                return DELETE;
            }
            return spells(text, from, to, "select") ? SELECT : NONE;
        }

        /** The words that stand behind the first one of a statement. */
        private static int innerWordKind(char[] text, int from, int to) {
            if (spells(text, from, to, "from")) {
                return FROM;
            }
            if (spells(text, from, to, "where")) {
                return WHERE;
            }
            if (spells(text, from, to, "order")) {
                return ORDER;
            }
            if (spells(text, from, to, "desc")) {
                return DESC;
            }
            if (spells(text, from, to, "limit")) {
                return LIMIT;
            }
            if (spells(text, from, to, "null")) {
                return NULL_WORD;
            }
            if (spells(text, from, to, "or")) {
                return OR;
            }
            if (spells(text, from, to, "and")) {
                return AND;
            }
            return spells(text, from, to, "not") ? NOT : NONE;
        }

        private static boolean spells(char[] text, int from, int to, String word) {
            if (to - from != word.length()) {
                return false;
            }
            for (int i = 0; i < word.length(); i++) {
                if (text[from + i] != word.charAt(i)) {
                    return false;
                }
            }
            return true;
        }
    }

    /** Reads a text as a statement. Each method answers whether what it is named for stands there, and takes it. */
    private static final class Parser {
        private static final int MOST_AROUND = 7;

        private final Tokens tokens = new Tokens();
        private final Statement statement;
        private final Code code;
        /** Where the E' of the N read last begins, if that was E = E'; NONE otherwise. */
        private int middle = NONE;

        Parser(Statement statement, Code code) {
            this.statement = statement;
            this.code = code;
        }

        boolean begin(char[] text, int end) {
            statement.clear();
            code.clear();
            return tokens.split(text, end);
        }

        boolean isAtEnd() {
            return tokens.next() == Tokens.END;
        }

        boolean wholeStatement() {
            statement.verb = tokens.next();
            if (tokens.accept(Tokens.CREATE)) {
                return firstTable() && number();
            }
            if (tokens.accept(Tokens.INDEX)) {
                return firstTable() && column();
            }
            if (tokens.accept(Tokens.INSERT)) {
                return firstTable() && list();
            }
            if (tokens.accept(Tokens.UPDATE)) {
                return firstTable() && column() && tokens.accept('=') && listed() && where();
            }
            if (tokens.accept(Tokens.DELETE)) {
                return firstTable() && where();
            }
            return tokens.accept(Tokens.SELECT) && list() && statement.listed <= SELECT_ROOM
                    && tokens.accept(Tokens.FROM) && firstTable() && secondTable() && where() && order() && limit();
        }

        private boolean firstTable() {
            if (!tokens.accept(Tokens.TABLE)) {
                return false;
            }
            statement.first = tokens.taken();
            return true;
        }

        private boolean secondTable() {
            if (!tokens.accept(',')) {
                return true;
            }
            if (!tokens.accept(Tokens.TABLE)) {
                return false;
            }
            statement.second = tokens.taken();
            return true;
        }

        private boolean number() {
            if (!tokens.accept(Tokens.NUMBER)) {
                return false;
            }
            statement.number = tokens.taken();
            return true;
        }

        private boolean column() {
            if (!tokens.accept(Tokens.COLUMN)) {
                return false;
            }
            statement.column = tokens.taken();
            return true;
        }

        private boolean list() {
            for (int k = 0; k < TEXT_ROOM; k++) {
                if (!listed()) {
                    return false;
                }
                if (!tokens.accept(',')) {
                    return true;
                }
            }
            return false;
        }

        private boolean listed() {
            if (!expression(0)) {
                return false;
            }
            statement.addListed(code.used);
            return true;
        }

        private boolean where() {
            if (!tokens.accept(Tokens.WHERE)) {
                return true;
            }
            statement.whereFrom = code.used;
            if (!condition(0)) {
                return false;
            }
            statement.whereTo = code.used;
            return true;
        }

        private boolean order() {
            if (!tokens.accept(Tokens.ORDER)) {
                return true;
            }
            statement.orderFrom = code.used;
            if (!expression(0)) {
                return false;
            }
            statement.orderTo = code.used;
            statement.descending = tokens.accept(Tokens.DESC);
            return true;
        }

        private boolean limit() {
            if (!tokens.accept(Tokens.LIMIT)) {
                return true;
            }
            if (!tokens.accept(Tokens.NUMBER)) {
                return false;
            }
            statement.limit = tokens.taken();
            return true;
        }

        // From here on, nests is the number of nests in which the thing lies.

        private boolean expression(int nests) {
            if (!product(nests)) {
                return false;
            }
            int sign = tokens.next();
            for (int k = 0; k < TEXT_ROOM && (sign == '+' || sign == '-'); k++) {
                tokens.accept(sign);
                if (!product(nests)) {
                    return false;
                }
                code.addOperator(sign);
                sign = tokens.next();
            }
            return true;
        }

        private boolean product(int nests) {
            if (!factor(nests)) {
                return false;
            }
            int sign = tokens.next();
            for (int k = 0; k < TEXT_ROOM && (sign == '*' || sign == '/'); k++) {
                tokens.accept(sign);
                if (!factor(nests)) {
                    return false;
                }
                code.addOperator(sign);
                sign = tokens.next();
            }
            return true;
        }

        private boolean factor(int nests) {
            if (tokens.accept('(')) {
                return nests <= MOST_AROUND && expression(nests + 1) && tokens.accept(')');
            }
            if (tokens.accept('-')) {
                if (nests > MOST_AROUND || !factor(nests + 1)) {
                    return false;
                }
                code.addOperator(Code.MINUS);
                return true;
            }
            if (tokens.accept(Tokens.NUMBER)) {
                code.add(Tokens.NUMBER, tokens.taken(), NONE);
                return true;
            }
            if (tokens.accept(Tokens.NULL_WORD)) {
                code.add(Tokens.NULL_WORD, 0, NONE);
                return true;
            }
            return columnOfTable();
        }

        private boolean columnOfTable() {
            int owner = NONE;
            if (tokens.accept(Tokens.TABLE)) {
                owner = tokens.taken();
                if (!tokens.accept('.')) {
                    return false;
                }
            }
            if (!tokens.accept(Tokens.COLUMN)) {
                return false;
            }
            code.add(Tokens.COLUMN, tokens.taken(), owner);
            return true;
        }

        private boolean condition(int nests) {
            int from = code.used;
            if (!conjunction(nests)) {
                return false;
            }
            boolean single = true;
            for (int k = 0; k < TEXT_ROOM && tokens.accept(Tokens.OR); k++) {
                if (!conjunction(nests)) {
                    return false;
                }
                code.addOperator(Tokens.OR);
                single = false;
            }
            if (nests == 0 && !single) {
                statement.setOnlyPart(from, code.used);
            }
            return true;
        }

        private boolean conjunction(int nests) {
            if (!part(nests)) {
                return false;
            }
            for (int k = 0; k < TEXT_ROOM && tokens.accept(Tokens.AND); k++) {
                if (!part(nests)) {
                    return false;
                }
                code.addOperator(Tokens.AND);
            }
            return true;
        }

        /** An N that stands in a K; only in the outermost C is it a part that counts for plans. */
        private boolean part(int nests) {
            int from = code.used;
            if (!negatable(nests)) {
                return false;
            }
            if (nests == 0) {
                statement.addPart(from, middle, code.used);
            }
            return true;
        }

        private boolean negatable(int nests) {
            if (tokens.accept('[')) {
                boolean closed = nests <= MOST_AROUND && condition(nests + 1) && tokens.accept(']');
                middle = NONE;
                return closed;
            }
            if (tokens.accept(Tokens.NOT)) {
                if (nests > MOST_AROUND || !negatable(nests + 1)) {
                    return false;
                }
                code.addOperator(Tokens.NOT);
                middle = NONE;
                return true;
            }
            return comparison(nests);
        }

        private boolean comparison(int nests) {
            middle = NONE;
            if (!expression(nests)) {
                return false;
            }
            if (tokens.accept(Tokens.NULL_WORD)) {
                code.addOperator(Code.IS_NULL);
                return true;
            }
            int sign = tokens.next();
            int begin = code.used;
            if (!tokens.accept('=') && !tokens.accept('<') && !tokens.accept('>') || !expression(nests)) {
                return false;
            }
            code.addOperator(sign);
            if (sign == '=') {
                middle = begin;
            }
            return true;
        }
    }

    /** Looks whether the tables, columns and numbers that a statement names are as they should be. */
    private static final class Checker {
        private final Table[] tables;
        private final Statement statement;
        private final Code code;

        Checker(Table[] tables, Statement statement, Code code) {
            this.tables = tables;
            this.statement = statement;
            this.code = code;
        }

        int fault() {
            if (!tablesFit() || !columnFits() || !findSides()) {
                return NAME;
            }
            return numbersFit() ? DONE : COUNT;
        }

        private boolean tablesFit() {
            boolean there = tables[statement.first].isThere();
            if (statement.verb == Tokens.CREATE) {
                return !there;
            }
            if (statement.second == NONE) {
                return there;
            }
            return there && statement.second != statement.first && tables[statement.second].isThere();
        }

        private boolean columnFits() {
            Table table = tables[statement.first];
            switch (statement.verb) {
                case Tokens.INDEX:
                    return statement.column > 0 && table.hasColumn(statement.column)
                            && !table.hasIndex(statement.column);
                case Tokens.UPDATE:
                    return table.hasColumn(statement.column);
                default:
                    return true;
            }
        }

        /** Gives each column its side; answers false if one has none, or may have none. */
        private boolean findSides() {
            for (int i = 0; i < code.used; i++) {
                if (code.isColumn(i)) {
                    int side = statement.verb == Tokens.INSERT ? NONE : sideOf(code.owners[i], code.numbers[i]);
                    if (side == NONE) {
                        return false;
                    }
                    code.sides[i] = side;
                }
            }
            return true;
        }

        private int sideOf(int owner, int column) {
            boolean inFirst = fits(statement.first, owner, column);
            boolean inSecond = fits(statement.second, owner, column);
            if (inFirst == inSecond) {
                return NONE;
            }
            return inFirst ? 0 : 1;
        }

        private boolean fits(int table, int owner, int column) {
            return table != NONE && (owner == NONE || owner == table) && tables[table].hasColumn(column);
        }

        private boolean numbersFit() {
            switch (statement.verb) {
                case Tokens.CREATE:
                    return statement.number >= 1 && statement.number <= COLUMN_ROOM;
                case Tokens.INSERT:
                    return statement.listed == tables[statement.first].across;
                default:
                    return true;
            }
        }
    }

    /** How the rows of one side are fetched: all, or those whose column has the value of some steps. */
    private static final class Access {
        private static final int SCAN = 1;
        private static final int BY_INDEX = 2;
        private static final int BY_KEY = 3;

        private final Statement statement;
        private final Code code;
        private final int side;
        /** The sides whose row is known when this one is fetched, as in Code.sidesIn. */
        private final int before;
        private int kind = SCAN;
        private int column;
        private int from;
        private int to;

        Access(Statement statement, Code code, int side, int before) {
            this.statement = statement;
            this.code = code;
            this.side = side;
            this.before = before;
        }

        void choose(Table table) {
            kind = SCAN;
            for (int part = 0; part < statement.parts && kind != BY_KEY; part++) {
                int middle = statement.partMiddle[part];
                if (middle != NONE) {
                    int begin = statement.partFrom[part];
                    // The last step of the part is the sign = itself.
                    int end = statement.partTo[part] - 1;
                    consider(table, code.loneColumn(begin, middle, side), middle, end);
                    consider(table, code.loneColumn(middle, end, side), begin, middle);
                }
            }
        }

        private void consider(Table table, int fixed, int byFrom, int byTo) {
            if (fixed == NONE || (code.sidesIn(byFrom, byTo) & ~before) != 0) {
                return;
            }
            if (fixed == 0) {
                take(BY_KEY, fixed, byFrom, byTo);
            } else if (kind == SCAN && table.hasIndex(fixed)) {
                take(BY_INDEX, fixed, byFrom, byTo);
            }
        }

        private void take(int better, int fixed, int byFrom, int byTo) {
            kind = better;
            column = fixed;
            from = byFrom;
            to = byTo;
        }

        int expected(Table table) {
            switch (kind) {
                case BY_KEY:
                    return 1;
                case BY_INDEX:
                    return (table.down + 1) / 2;
                default:
                    return table.down;
            }
        }
    }

    /** Chooses the plan, fetches rows by it, and holds those found in the order of the result. */
    private static final class Search {
        private final Statement statement;
        private final Code code;
        private final Pair pair;
        private final Access firstAlone;
        private final Access secondAlone;
        private final Access firstBehind;
        private final Access secondBehind;
        private final int[] outerRows = new int[ROW_ROOM];
        private final int[] innerRows = new int[ROW_ROOM];
        private final long[] ranks = new long[RESULT_ROOM];
        private final int[] firstRows = new int[RESULT_ROOM];
        private final int[] secondRows = new int[RESULT_ROOM];
        private Access outer;
        private Access inner;
        private int fetched;
        /** Counts on behind the room, so that too many can be told. */
        private int found;

        Search(Statement statement, Code code, Pair pair) {
            this.statement = statement;
            this.code = code;
            this.pair = pair;
            firstAlone = new Access(statement, code, 0, 0);
            secondAlone = new Access(statement, code, 1, 0);
            firstBehind = new Access(statement, code, 0, 2);
            secondBehind = new Access(statement, code, 1, 1);
            outer = firstAlone;
            inner = secondBehind;
        }

        void choosePlan() {
            Table first = pair.tableOf(0);
            Table second = pair.tableOf(1);
            outer = firstAlone;
            inner = secondBehind;
            firstAlone.choose(first);
            if (!isOfTwo()) {
                return;
            }
            secondBehind.choose(second);
            secondAlone.choose(second);
            firstBehind.choose(first);
            int straight = cost(firstAlone.expected(first), secondBehind.expected(second));
            int crossed = cost(secondAlone.expected(second), firstBehind.expected(first));
            if (crossed < straight) {
                outer = secondAlone;
                inner = firstBehind;
            }
        }

        private static int cost(int ofOuter, int ofInner) {
            return ofOuter + ofOuter * ofInner;
        }

        private boolean isOfTwo() {
            return statement.second != NONE;
        }

        int planNumber() {
            if (!isOfTwo()) {
                return outer.kind;
            }
            return outer.kind + 4 * inner.kind + (outer.side == 1 ? 16 : 0);
        }

        void findAll() {
            fetched = 0;
            found = 0;
            int outerAmount = fetch(outer, outerRows);
            for (int i = 0; i < outerAmount; i++) {
                pair.move(outer.side, outerRows[i]);
                if (!isOfTwo()) {
                    keepIfFound();
                } else if (outerRowHolds()) {
                    int innerAmount = fetch(inner, innerRows);
                    for (int j = 0; j < innerAmount; j++) {
                        pair.move(inner.side, innerRows[j]);
                        keepIfFound();
                    }
                }
            }
        }

        private int fetch(Access access, int[] into) {
            Table table = pair.tableOf(access.side);
            boolean all = access.kind == Access.SCAN;
            long wanted = all ? NULL : code.work(access.from, access.to, pair);
            int amount = 0;
            for (int row = 0; row < table.down && row < into.length; row++) {
                if (all || wanted != NULL && table.get(row, access.column) == wanted) {
                    into[amount] = row;
                    amount++;
                }
            }
            fetched += amount;
            return amount;
        }

        /** Whether all parts that can be told without a row of the inner side are true. */
        private boolean outerRowHolds() {
            for (int part = 0; part < statement.parts; part++) {
                int from = statement.partFrom[part];
                int to = statement.partTo[part];
                boolean needsInner = (code.sidesIn(from, to) & 1 << inner.side) != 0;
                if (!needsInner && code.work(from, to, pair) != Code.TRUE) {
                    return false;
                }
            }
            return true;
        }

        private void keepIfFound() {
            if (statement.hasWhere() && code.work(statement.whereFrom, statement.whereTo, pair) != Code.TRUE) {
                return;
            }
            if (found < RESULT_ROOM) {
                long value = statement.hasOrder() ? code.work(statement.orderFrom, statement.orderTo, pair) : 0;
                putInOrder(rank(value), pair.rowOf(0), pair.rowOf(1));
            }
            found++;
        }

        /** A number that is the less the earlier a value comes in the order asked for. */
        private long rank(long value) {
            long upward = value == NULL ? -NULL : value;
            return statement.descending ? -upward : upward;
        }

        private void putInOrder(long rank, int first, int second) {
            int at = found;
            for (; at > 0 && comesBefore(rank, first, second, at - 1); at--) {
                ranks[at] = ranks[at - 1];
                firstRows[at] = firstRows[at - 1];
                secondRows[at] = secondRows[at - 1];
            }
            ranks[at] = rank;
            firstRows[at] = first;
            secondRows[at] = second;
        }

        /** Rows of a table are in the order of their keys, so their places stand for the keys here. */
        private boolean comesBefore(long rank, int first, int second, int other) {
            if (rank != ranks[other]) {
                return rank < ranks[other];
            }
            return first != firstRows[other] ? first < firstRows[other] : second < secondRows[other];
        }

        void goTo(int k) {
            if (k >= 0 && k < found && k < RESULT_ROOM) {
                pair.move(0, firstRows[k]);
                pair.move(1, secondRows[k]);
            }
        }
    }
}
