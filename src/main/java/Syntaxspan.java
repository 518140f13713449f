import java.util.Arrays;

/** The mind of an editor of three files: their tokens, trees, names, types, plans and runs. */
public final class Syntaxspan {
    public static final int NONE = -1;
    public static final int UNKNOWN = 0, INT = 1, BOOL = 2;

    private static final int FILES = 3;
    private static final int LINES = 8;
    private static final int WIDE = 24;
    private static final int ROWS = FILES * LINES;
    private static final int MOST = LINES * WIDE;
    /** Ids tell a token of all files: its file times this, and its number. */
    private static final int STRIDE = 200;
    private static final int IDS = FILES * STRIDE;
    private static final int LETTERS = 6;
    private static final int CHANGES = 3;
    private static final int FRAGMENTS = 24;

    private static final int T_NAME = 0, T_NUM = 1, T_USE = 2, T_FN = 3, T_LET = 4, T_IF = 5, T_ELSE = 6, T_RET = 7,
            T_YES = 8, T_NO = 9, T_OPEN = 10, T_CLOSE = 11, T_BEGIN = 12, T_FINISH = 13, T_COMMA = 14,
            T_SEMICOLON = 15, T_ASSIGN = 16, T_SAME = 17, T_LESS = 18, T_PLUS = 19, T_MINUS = 20, T_TIMES = 21,
            T_NOT = 22, T_BAD = 23, T_END = 24;
    /** The signs of the classes 10 and above; the blank keeps the place of ==. */
    private static final char[] SIGNS = {'(', ')', '{', '}', ',', ';', '=', ' ', '<', '+', '-', '*', '!'};
    /** The words of the classes 2 to 9, one behind the other, and where each begins: rows, so that none is made. */
    private static final char[] WORDS = {'u', 's', 'e', 'f', 'n', 'l', 'e', 't', 'i', 'f', 'e', 'l', 's', 'e',
        'r', 'e', 't', 'y', 'e', 's', 'n', 'o'};
    private static final int[] WORD_STARTS = {0, 3, 5, 8, 10, 14, 17, 20, 22};

    /** Owners of chars that are in no token. */
    private static final int IN_BLANK = -1, IN_COMMENT = -2;

    /** The kinds of words of a tree's code: exprs stand ahead of what takes them. */
    private static final int O_USE = 1, O_FN = 2, O_BLOCK = 3, O_END = 4, O_DONE = 5, O_STEP = 6, O_LET = 7,
            O_SET = 8, O_DROP = 9, O_RET = 10, O_IF = 11, O_ELSE = 12, O_BROKEN = 13, O_LEAF = 14, O_CALL = 15,
            O_NOT = 16, O_PAIR = 17, O_GROUP = 18;

    private final Desk now = new Desk();
    private final Lines saved = new Lines();
    private final Types types = new Types();
    private final Repair repairs = new Repair();
    private final Runner runner = new Runner();
    private final Completer completer = new Completer();
    private final Plan plan = new Plan();
    private final char[] name = new char[LETTERS];
    private int letters;
    private int lookedAt;

    public Syntaxspan() {
    }

    // ---- edits

    public int insert(int file, int line, int column, char sign)
            throws IndexOutOfBoundsException, IllegalArgumentException, IllegalStateException {
        needLine(file, line);
        int row = file * LINES + line;
        if (column < 0 || column > now.lines.size(row)) {
            throw new IndexOutOfBoundsException();
        }
        if (sign < 32 || sign > 126) {
            throw new IllegalArgumentException();
        }
        if (now.lines.size(row) >= WIDE) {
            throw new IllegalStateException();
        }
        now.lines.put(row, column, sign);
        changed(file, line, true);
        return now.lines.size(row);
    }

    public char erase(int file, int line, int column)
            throws IndexOutOfBoundsException {
        needColumn(file, line, column);
        char sign = now.lines.take(file * LINES + line, column);
        changed(file, line, true);
        return sign;
    }

    public int paste(int file, int line, int fragment)
            throws IndexOutOfBoundsException, IllegalArgumentException, IllegalStateException {
        needLine(file, line);
        if (fragment < 0 || fragment >= FRAGMENTS) {
            throw new IllegalArgumentException();
        }
        int row = file * LINES + line;
        String text = fragmentText(fragment);
        if (now.lines.size(row) + text.length() > WIDE) {
            throw new IllegalStateException();
        }
        for (int i = 0; i < text.length(); i++) {
            now.lines.put(row, now.lines.size(row), text.charAt(i));
        }
        changed(file, line, true);
        return now.lines.size(row);
    }

    public int clear(int file, int line)
            throws IndexOutOfBoundsException {
        needLine(file, line);
        int row = file * LINES + line;
        int size = now.lines.size(row);
        now.lines.wipe(row);
        changed(file, line, size > 0);
        return size;
    }

    public int save(int file)
            throws IndexOutOfBoundsException {
        needFile(file);
        return copyFile(now.lines, saved, file);
    }

    public int back(int file)
            throws IndexOutOfBoundsException {
        needFile(file);
        int count = copyFile(saved, now.lines, file);
        if (count > 0) {
            plan.disturb();
            now.refresh();
        }
        return count;
    }

    public char charAt(int file, int line, int column)
            throws IndexOutOfBoundsException {
        needColumn(file, line, column);
        return now.lines.sign(file * LINES + line, column);
    }

    public int length(int file, int line)
            throws IndexOutOfBoundsException {
        needLine(file, line);
        return now.lines.size(file * LINES + line);
    }

    // ---- tokens

    public int relexed() {
        return lookedAt;
    }

    public int tokens(int file)
            throws IndexOutOfBoundsException {
        needFile(file);
        return fresh().rows[file].count;
    }

    public int token(int file, int token)
            throws IndexOutOfBoundsException {
        needToken(file, token);
        return fresh().rows[file].told(token);
    }

    public int tokenAnew(int file, int token)
            throws IndexOutOfBoundsException {
        needToken(file, token);
        anew();
        return plan.draft.rows[file].told(token);
    }

    public int colour(int file, int line, int column)
            throws IndexOutOfBoundsException {
        needColumn(file, line, column);
        Desk desk = fresh();
        int owner = desk.rows[file].owner(line, column);
        if (owner < 0) {
            return owner == IN_COMMENT ? 1 : 0;
        }
        return colourOf(desk, file, owner);
    }

    public int partner(int file, int token)
            throws IndexOutOfBoundsException {
        needToken(file, token);
        return fresh().rows[file].partners[token];
    }

    public int fold(int file, int line)
            throws IndexOutOfBoundsException {
        needLine(file, line);
        return fresh().rows[file].foldedTo(line);
    }

    // ---- trees and errors

    public int errors(int file)
            throws IndexOutOfBoundsException {
        needFile(file);
        return fresh().trees[file].errors;
    }

    public int errorAt(int file, int error)
            throws IndexOutOfBoundsException {
        needError(file, error);
        return now.trees[file].told[error];
    }

    public int repair(int file, int error)
            throws IndexOutOfBoundsException {
        needError(file, error);
        Tree tree = now.trees[file];
        return repairs.least(now.rows[file], tree.firsts[error], tree.lasts[error]);
    }

    public long tree(int file)
            throws IndexOutOfBoundsException {
        needFile(file);
        Desk desk = fresh();
        return runner.print(desk.rows[file], desk.trees[file]);
    }

    public int may(int file, int place)
            throws IndexOutOfBoundsException {
        needPlace(file, place);
        return completer.maySet(now, file, place);
    }

    // ---- names and types

    public int functions(int file)
            throws IndexOutOfBoundsException {
        needFile(file);
        return fresh().trees[file].fnCount;
    }

    public int functionAt(int file, int function)
            throws IndexOutOfBoundsException {
        needFunction(file, function);
        Tree tree = now.trees[file];
        return 100 * tree.fnNames[function] + tree.fnParams[function];
    }

    public int binding(int file, int token)
            throws IndexOutOfBoundsException {
        needToken(file, token);
        return toldId(now.bound[file * STRIDE + token]);
    }

    public int bindingAnew(int file, int token)
            throws IndexOutOfBoundsException {
        needToken(file, token);
        anew();
        return toldId(plan.draft.bound[file * STRIDE + token]);
    }

    public int typeOf(int file, int token)
            throws IndexOutOfBoundsException {
        needToken(file, token);
        types.findAll(now);
        return types.typeAt(now.bound[file * STRIDE + token]);
    }

    public int typeErrors() {
        types.findAll(fresh());
        return types.errors;
    }

    public int typeErrorAt(int error)
            throws IndexOutOfBoundsException {
        types.findAll(fresh());
        if (error < 0 || error >= types.errors) {
            throw new IndexOutOfBoundsException();
        }
        return toldId(types.told[error]);
    }

    // ---- the spelled name and completions

    public int spell(char letter)
            throws IllegalArgumentException, IllegalStateException {
        if (letter < 'a' || letter > 'z') {
            throw new IllegalArgumentException();
        }
        if (letters >= LETTERS) {
            throw new IllegalStateException();
        }
        name[letters] = letter;
        letters++;
        return letters;
    }

    public int clearName() {
        int had = letters;
        letters = 0;
        return had;
    }

    public int completions(int file, int place)
            throws IndexOutOfBoundsException {
        needPlace(file, place);
        completer.gather(now, file, place, name, letters);
        return completer.count;
    }

    public int completionAt(int file, int place, int which)
            throws IndexOutOfBoundsException {
        needPlace(file, place);
        if (which < 0) {
            throw new IndexOutOfBoundsException();
        }
        completer.gather(now, file, place, name, letters);
        return which < completer.count ? toldId(completer.found[which]) : NONE;
    }

    // ---- plans

    public int planRename(int file, int token)
            throws IndexOutOfBoundsException, IllegalStateException {
        needToken(file, token);
        needRoom();
        return plan.addRename(file, token, name, letters);
    }

    public int planInline(int file, int token)
            throws IndexOutOfBoundsException, IllegalStateException {
        needToken(file, token);
        needRoom();
        return plan.addInline(file, token);
    }

    public int planMove(int file, int token, int other)
            throws IndexOutOfBoundsException, IllegalArgumentException, IllegalStateException {
        needToken(file, token);
        needFile(other);
        if (file == other) {
            throw new IllegalArgumentException();
        }
        needRoom();
        return plan.addMove(file, token, other);
    }

    public int clearPlan() {
        return plan.wipe();
    }

    public int reason() {
        return plan.against(now);
    }

    public int carryOut()
            throws IllegalStateException {
        if (plan.count == 0 || plan.against(now) != 0) {
            throw new IllegalStateException();
        }
        now.lines.copyFrom(plan.draft.lines);
        now.refresh();
        return plan.wipe();
    }

    // ---- running

    public long run(int file, int function, int x, int y)
            throws IndexOutOfBoundsException {
        needFunction(file, function);
        return runner.give(now, file * STRIDE + now.trees[file].fnNames[function], x, y);
    }

    // ---- what the calls of the face share

    private static void needFile(int file) {
        if (file < 0 || file >= FILES) {
            throw new IndexOutOfBoundsException();
        }
    }

    private static void needLine(int file, int line) {
        if (file < 0 || file >= FILES || line < 0 || line >= LINES) {
            throw new IndexOutOfBoundsException();
        }
    }

    private void needColumn(int file, int line, int column) {
        needLine(file, line);
        if (column < 0 || column >= now.lines.size(file * LINES + line)) {
            throw new IndexOutOfBoundsException();
        }
    }

    private void needToken(int file, int token) {
        needFile(file);
        if (now.stale) {
            now.refresh();
        }
        if (token < 0 || token >= now.rows[file].count) {
            throw new IndexOutOfBoundsException();
        }
    }

    private void needPlace(int file, int place) {
        needFile(file);
        if (now.stale) {
            now.refresh();
        }
        if (place < 0 || place > now.rows[file].count) {
            throw new IndexOutOfBoundsException();
        }
    }

    private void needError(int file, int error) {
        needFile(file);
        if (now.stale) {
            now.refresh();
        }
        if (error < 0 || error >= now.trees[file].errors) {
            throw new IndexOutOfBoundsException();
        }
    }

    private void needFunction(int file, int function) {
        needFile(file);
        if (now.stale) {
            now.refresh();
        }
        if (function < 0 || function >= now.trees[file].fnCount) {
            throw new IndexOutOfBoundsException();
        }
    }

    private void needRoom() {
        if (plan.count >= CHANGES) {
            throw new IllegalStateException();
        }
    }

    private void changed(int file, int line, boolean otherwise) {
        lookedAt = now.rows[file].afterEdit(now.lines, file, line);
        now.stale = true;
        if (otherwise) {
            plan.disturb();
        }
    }

    /** Tokens, trees and bindings are made anew only when they are asked for. */
    private Desk fresh() {
        if (now.stale) {
            now.refresh();
        }
        return now;
    }

    private void anew() {
        plan.draft.lines.copyFrom(now.lines);
        plan.draft.refresh();
    }

    private static int copyFile(Lines from, Lines to, int file) {
        int count = 0;
        for (int row = file * LINES; row < (file + 1) * LINES; row++) {
            if (!to.alike(from, row)) {
                count++;
            }
            to.copyRow(from, row, row);
        }
        return count;
    }

    private static int toldId(int id) {
        return id < 0 ? NONE : 1000 * (id / STRIDE) + id % STRIDE;
    }

    private static int colourOf(Desk desk, int file, int token) {
        int kind = desk.rows[file].kind(token);
        if (kind == T_NAME) {
            int id = desk.bound[file * STRIDE + token];
            return id == NONE ? 5 : desk.isFunction(id) ? 3 : 4;
        }
        if (kind == T_NUM) {
            return 6;
        }
        return kind == T_BAD ? 8 : kind < T_OPEN ? 2 : 7;
    }

    private static String fragmentText(int fragment) {
        switch (fragment) {
            case 0: return "fn f(x) {";
            case 1: return "fn g(x, y) {";
            case 2: return "fn h() {";
            case 3: return "}";
            case 4: return "let y = x + 1;";
            case 5: return "let x = 2;";
            case 6: return "ret x;";
            case 7: return "ret y * 2;";
            case 8: return "if x < 3 {";
            case 9: return "} else {";
            case 10: return "x = x - 1;";
            case 11: return "ret f(x);";
            case 12: return "let z = g(x, y);";
            case 13: return "use a;";
            case 14: return "use b;";
            case 15: return "use c;";
            case 16: return "ret x == y;";
            case 17: return "f(1);";
            case 18: return "/* ";
            case 19: return " */";
            case 20: return "let y = !no;";
            case 21: return "ret f(g(x, 1));";
            case 22: return "{";
            default: return "let = x + ;";
        }
    }

    private static int kindOfWord(char[] signs, int from, int size) {
        for (int kind = T_USE; kind <= T_NO; kind++) {
            int start = WORD_STARTS[kind - T_USE];
            int end = WORD_STARTS[kind - T_USE + 1];
            boolean same = end - start == size && from >= 0 && from + size <= signs.length;
            for (int i = 0; same && i < size; i++) {
                same = WORDS[start + i] == signs[from + i];
            }
            if (same) {
                return kind;
            }
        }
        return T_NAME;
    }

    private static int kindOfSign(char sign) {
        for (int i = 0; i < SIGNS.length; i++) {
            if (SIGNS[i] == sign) {
                return T_OPEN + i;
            }
        }
        return T_BAD;
    }

    private static boolean isLetter(char sign) {
        return sign >= 'a' && sign <= 'z';
    }

    private static boolean isDigit(char sign) {
        return sign >= '0' && sign <= '9';
    }

    private static int opOf(int word) {
        return word & 255;
    }

    private static int tokenOf(int word) {
        return word >> 8 & 255;
    }

    private static int extraOf(int word) {
        return word >>> 16;
    }

    /** The chars of all files, by rows: 8 times the file, and the line. */
    private static final class Lines {
        private final char[] signs = new char[ROWS * WIDE];
        private final int[] sizes = new int[ROWS];
        /** Which row this one was when origins were numbered: a plan's tokens are followed by them. */
        private final int[] origins = new int[ROWS];

        int size(int row) {
            return row < 0 || row >= ROWS ? 0 : sizes[row];
        }

        char sign(int row, int column) {
            return row < 0 || row >= ROWS || column < 0 || column >= sizes[row] ? ' ' : signs[row * WIDE + column];
        }

        void put(int row, int column, char sign) {
            int size = size(row);
            if (row < 0 || row >= ROWS || column < 0 || column > size || size >= WIDE) {
                return;
            }
            int at = row * WIDE + column;
            System.arraycopy(signs, at, signs, at + 1, size - column);
            signs[at] = sign;
            sizes[row] = size + 1;
        }

        char take(int row, int column) {
            int size = size(row);
            if (column < 0 || column >= size) {
                return ' ';
            }
            int at = row * WIDE + column;
            char sign = signs[at];
            System.arraycopy(signs, at + 1, signs, at, size - column - 1);
            sizes[row] = size - 1;
            return sign;
        }

        void wipe(int row) {
            if (row >= 0 && row < ROWS) {
                sizes[row] = 0;
                origins[row] = NONE;
            }
        }

        void fill(int row, char[] text, int size) {
            if (row >= 0 && row < ROWS && size >= 0 && size <= WIDE && size <= text.length) {
                System.arraycopy(text, 0, signs, row * WIDE, size);
                sizes[row] = size;
            }
        }

        void copyRow(Lines from, int source, int target) {
            if (source < 0 || source >= ROWS || target < 0 || target >= ROWS) {
                return;
            }
            System.arraycopy(from.signs, source * WIDE, signs, target * WIDE, WIDE);
            sizes[target] = from.sizes[source];
            origins[target] = from.origins[source];
        }

        void copyFrom(Lines from) {
            System.arraycopy(from.signs, 0, signs, 0, ROWS * WIDE);
            System.arraycopy(from.sizes, 0, sizes, 0, ROWS);
        }

        boolean alike(Lines other, int row) {
            boolean same = size(row) == other.size(row);
            for (int column = 0; same && column < size(row); column++) {
                same = sign(row, column) == other.sign(row, column);
            }
            return same;
        }

        void numberOrigins() {
            for (int row = 0; row < ROWS; row++) {
                origins[row] = row;
            }
        }

        /** Brings empty rows in ahead of a line; false if a line that is not empty would go down too far. */
        boolean openRows(int file, int line, int count) {
            if (line < 0 || count < 0 || line + count > LINES) {
                return false;
            }
            int base = file * LINES;
            for (int i = Math.max(line, LINES - count); i < LINES; i++) {
                if (size(base + i) > 0) {
                    return false;
                }
            }
            for (int i = LINES - 1; i >= line + count; i--) {
                copyRow(this, base + i - count, base + i);
            }
            for (int i = line; i < line + count; i++) {
                wipe(base + i);
            }
            return true;
        }

        void closeRows(int file, int line, int count) {
            int base = file * LINES;
            for (int i = line; i < LINES; i++) {
                if (i + count < LINES) {
                    copyRow(this, base + i + count, base + i);
                } else {
                    wipe(base + i);
                }
            }
        }
    }

    /** The tokens of a file. */
    private static final class Tokens {
        private final int[] kinds = new int[MOST];
        private final int[] lineOf = new int[MOST];
        private final int[] columns = new int[MOST];
        private final int[] sizes = new int[MOST];
        private final int[] partners = new int[MOST];
        private final int[] open = new int[MOST];
        private final int[] owners = new int[MOST];
        /** Which lines end in a comment. */
        private final boolean[] ends = new boolean[LINES];
        private int count;

        int kind(int token) {
            return token < 0 || token >= count ? T_END : kinds[token];
        }

        int line(int token) {
            return token < 0 || token >= count ? NONE : lineOf[token];
        }

        int told(int token) {
            return token < 0 || token >= count ? NONE : 10000 * kinds[token] + 1000 * lineOf[token] + columns[token];
        }

        int owner(int line, int column) {
            int at = line * WIDE + column;
            return at < 0 || at >= MOST ? IN_BLANK : owners[at];
        }

        boolean endsInside(int line) {
            return line >= 0 && line < LINES && ends[line];
        }

        /** Finds only where lines end, which the lines below need; tokens are gathered when they are asked for. */
        int afterEdit(Lines lines, int file, int line) {
            int looked = 0;
            boolean go = true;
            for (int i = line; go && i < LINES; i++) {
                boolean end = endOf(lines, file * LINES + i, endsInside(i - 1));
                looked++;
                go = end != ends[i];
                ends[i] = end;
            }
            return looked;
        }

        private static boolean endOf(Lines lines, int row, boolean begun) {
            boolean inside = begun;
            int size = lines.size(row);
            for (int column = 0; column < size; column++) {
                if (turns(lines, row, column, inside)) {
                    inside = !inside;
                    column++;
                }
            }
            return inside;
        }

        /** Whether a comment begins, or ends, with the two signs here. */
        private static boolean turns(Lines lines, int row, int column, boolean inside) {
            char one = lines.sign(row, column);
            char two = lines.sign(row, column + 1);
            return inside ? one == '*' && two == '/' : one == '/' && two == '*';
        }

        void gather(Lines lines, int file) {
            count = 0;
            boolean inside = false;
            for (int line = 0; line < LINES; line++) {
                inside = gatherLine(lines, file * LINES + line, line, inside);
                ends[line] = inside;
            }
            pairBrackets();
        }

        private boolean gatherLine(Lines lines, int row, int line, boolean begun) {
            boolean inside = begun;
            int size = lines.size(row);
            int column = 0;
            for (int round = 0; round < WIDE && column < size; round++) {
                int span = 1;
                int owner = IN_COMMENT;
                if (turns(lines, row, column, inside)) {
                    inside = !inside;
                    span = 2;
                } else if (!inside && lines.sign(row, column) == ' ') {
                    owner = IN_BLANK;
                } else if (!inside) {
                    span = spanAt(lines, row, column);
                    owner = count;
                    add(classAt(lines, row, column, span), line, column, span);
                }
                int from = line * WIDE + column;
                Arrays.fill(owners, from, Math.min(MOST, from + span), owner);
                column += span;
            }
            return inside;
        }

        private void add(int kind, int line, int column, int span) {
            if (count >= MOST) {
                return;
            }
            kinds[count] = kind;
            lineOf[count] = line;
            columns[count] = column;
            sizes[count] = span;
            partners[count] = NONE;
            count++;
        }

        private static int spanAt(Lines lines, int row, int column) {
            char first = lines.sign(row, column);
            if (first == '=') {
                return lines.sign(row, column + 1) == '=' ? 2 : 1;
            }
            if (!isLetter(first) && !isDigit(first)) {
                return 1;
            }
            int span = 1;
            for (int i = column + 1; i < lines.size(row) && span == i - column; i++) {
                char sign = lines.sign(row, i);
                if (isLetter(first) ? isLetter(sign) : isDigit(sign)) {
                    span++;
                }
            }
            return span;
        }

        private static int classAt(Lines lines, int row, int column, int span) {
            char first = lines.sign(row, column);
            if (isLetter(first)) {
                return kindOfWord(lines.signs, row * WIDE + column, span);
            }
            if (isDigit(first)) {
                return span > 3 ? T_BAD : T_NUM;
            }
            return span == 2 ? T_SAME : kindOfSign(first);
        }

        private void pairBrackets() {
            int depth = 0;
            for (int token = 0; token < count; token++) {
                int kind = kinds[token];
                if (kind == T_OPEN || kind == T_BEGIN) {
                    open[depth] = token;
                    depth++;
                } else if ((kind == T_CLOSE || kind == T_FINISH) && depth > 0 && kinds[open[depth - 1]] == kind - 1) {
                    depth--;
                    partners[token] = open[depth];
                    partners[open[depth]] = token;
                }
            }
        }

        int foldedTo(int line) {
            for (int token = 0; token < count; token++) {
                if (lineOf[token] == line && kinds[token] == T_BEGIN && line(partners[token]) > line) {
                    return line(partners[token]);
                }
            }
            return NONE;
        }
    }

    /** What was read of a file: code, errors, functions and USE items. */
    private static final class Tree {
        private static final int CODE = 640;
        private static final int ITEMS = 40;

        private final int[] code = new int[CODE];
        private int size;
        private final int[] told = new int[STRIDE];
        private final int[] firsts = new int[STRIDE];
        private final int[] lasts = new int[STRIDE];
        private int errors;
        private final int[] fnNames = new int[ITEMS];
        private final int[] fnParams = new int[ITEMS];
        private final int[] fnStarts = new int[ITEMS];
        /** The tokens of the last } of functions, NONE if a block was not ended by it. */
        private final int[] fnLasts = new int[ITEMS];
        private int fnCount;
        private final int[] uses = new int[ITEMS];
        private int useCount;

        void begin() {
            size = 0;
            errors = 0;
            fnCount = 0;
            useCount = 0;
        }

        void emit(int op, int token, int extra) {
            if (size < CODE) {
                code[size] = op | token << 8 | extra << 16;
                size++;
            }
        }

        /** Gives a jump the place that it goes to. */
        void aim(int at, int place) {
            if (at >= 0 && at < size) {
                code[at] = code[at] & 0xffff | place << 16;
            }
        }

        void tell(int token, int first, int last) {
            if (errors < STRIDE) {
                told[errors] = token;
                firsts[errors] = first;
                lasts[errors] = last;
                errors++;
            }
        }

        boolean tells(int token) {
            for (int i = 0; i < errors; i++) {
                if (told[i] == token) {
                    return true;
                }
            }
            return false;
        }

        void addFunction(int name, int params) {
            if (fnCount < ITEMS) {
                fnNames[fnCount] = name;
                fnParams[fnCount] = params;
                fnStarts[fnCount] = size;
                fnLasts[fnCount] = NONE;
                fnCount++;
            }
        }

        void endFunction(int last) {
            if (fnCount > 0) {
                fnLasts[fnCount - 1] = last;
            }
        }

        void addUse(int name) {
            if (useCount < ITEMS) {
                uses[useCount] = name;
                useCount++;
            }
        }

        int functionOf(int name) {
            for (int i = 0; i < fnCount; i++) {
                if (fnNames[i] == name) {
                    return i;
                }
            }
            return NONE;
        }
    }

    /** Reads tokens to a tree, with recovery; what is open stands in rows of its own, so nothing calls itself. */
    private static final class Reader {
        private static final int FUNCTION = 0, PLAIN = 1, FIRST = 2, SECOND = 3;
        private static final int TOP = 0, GROUP = 1, CALL = 2;
        private static final int FAILED = 0, WANT = 1, HAVE = 2, OVER = 3, SHUT = 4;

        private int[] kinds = new int[0];
        private int count;
        private int at;
        private Tree tree;
        private final int[] blocks = new int[STRIDE];
        private final int[] starts = new int[STRIDE];
        private int depth;
        /** The open exprs: what opened them, and the operators that wait for their right sides. */
        private final int[] shapes = new int[STRIDE];
        private final int[] openers = new int[STRIDE];
        private final int[] sizes = new int[STRIDE];
        private final int[] nots = new int[STRIDE];
        private final int[] timeses = new int[STRIDE];
        private final int[] adds = new int[STRIDE];
        private final int[] compares = new int[STRIDE];
        private int level;

        Reader(Tree first) {
            tree = first;
        }

        void read(int[] given, int size, Tree into) {
            kinds = given;
            count = Math.max(0, Math.min(size, given.length));
            tree = into;
            at = 0;
            depth = 0;
            tree.begin();
            for (int round = 0; round < 3 * STRIDE && (at < count || depth > 0); round++) {
                if (depth > 0) {
                    statement();
                } else {
                    item();
                }
            }
        }

        private int kind(int token) {
            return token < 0 || token >= count ? T_END : kinds[token];
        }

        private boolean eat(int kind) {
            if (kind(at) != kind) {
                return false;
            }
            at++;
            return true;
        }

        private static boolean beginsItem(int kind) {
            return kind == T_FN || kind == T_USE || kind == T_END;
        }

        private void item() {
            int kind = kind(at);
            boolean whole = kind == T_USE ? useItem() : kind == T_FN && header();
            if (!whole) {
                tree.tell(at, NONE, NONE);
                for (int i = at; i < count && !beginsItem(kind(at)); i++) {
                    at++;
                }
            }
        }

        private boolean useItem() {
            int name = at + 1;
            if (!eat(T_USE) || !eat(T_NAME) || !eat(T_SEMICOLON)) {
                return false;
            }
            tree.addUse(name);
            tree.emit(O_USE, name, 0);
            return true;
        }

        private boolean header() {
            int name = at + 1;
            if (!eat(T_FN) || !eat(T_NAME) || !eat(T_OPEN)) {
                return false;
            }
            int params = 0;
            boolean more = kind(at) != T_CLOSE;
            for (int round = 0; more && round < count; round++) {
                if (!eat(T_NAME)) {
                    return false;
                }
                params++;
                more = eat(T_COMMA);
            }
            if (!eat(T_CLOSE) || kind(at) != T_BEGIN) {
                return false;
            }
            tree.addFunction(name, params);
            tree.emit(O_FN, name, params);
            openBlock(FUNCTION, NONE);
            return true;
        }

        private void openBlock(int block, int start) {
            tree.emit(O_BLOCK, at, 0);
            at++;
            if (depth < STRIDE) {
                blocks[depth] = block;
                starts[depth] = start;
                depth++;
            }
        }

        private void closeBlock(boolean closed) {
            if (!closed) {
                tree.tell(at, NONE, NONE);
            }
            int last = closed ? at : NONE;
            tree.emit(O_END, at, closed ? 1 : 0);
            at += closed ? 1 : 0;
            depth--;
            int block = blocks[depth];
            int start = starts[depth];
            if (block == FUNCTION) {
                tree.emit(O_DONE, 0, 0);
                tree.endFunction(last);
            } else if (block != PLAIN) {
                tree.aim(start, tree.size);
            }
            if (block == FIRST && eat(T_ELSE)) {
                if (kind(at) == T_BEGIN) {
                    int jump = tree.size;
                    tree.emit(O_ELSE, at - 1, 0);
                    tree.aim(start, tree.size);
                    openBlock(SECOND, jump);
                } else {
                    tree.tell(at, NONE, NONE);
                    skip();
                }
            }
        }

        private void skip() {
            boolean go = true;
            for (int i = at; i < count && go; i++) {
                int kind = kind(at);
                go = kind != T_SEMICOLON && kind != T_BEGIN && kind != T_FINISH && !beginsItem(kind);
                if (go || kind == T_SEMICOLON) {
                    at++;
                }
            }
        }

        private void statement() {
            int kind = kind(at);
            if (kind == T_FINISH || beginsItem(kind)) {
                closeBlock(kind == T_FINISH);
                return;
            }
            int first = at;
            int mark = tree.size;
            tree.emit(O_STEP, at, 0);
            boolean called = kind == T_NAME && kind(at + 1) == T_OPEN;
            boolean whole;
            if (kind == T_BEGIN) {
                openBlock(PLAIN, NONE);
                return;
            } else if (kind == T_IF) {
                whole = eat(T_IF) && expr(false) && kind(at) == T_BEGIN;
            } else if (kind == T_RET) {
                whole = eat(T_RET) && expr(false) && eat(T_SEMICOLON);
            } else if (called) {
                whole = expr(true) && eat(T_SEMICOLON);
            } else {
                whole = (kind != T_LET || eat(T_LET)) && eat(T_NAME) && eat(T_ASSIGN) && expr(false)
                        && eat(T_SEMICOLON);
            }
            if (!whole) {
                tree.size = mark;
                int error = at;
                skip();
                tree.tell(error, first, at - 1);
                tree.emit(O_BROKEN, first, 0);
            } else if (kind == T_IF) {
                tree.emit(O_IF, first, 0);
                openBlock(FIRST, tree.size - 1);
            } else if (kind == T_LET) {
                tree.emit(O_LET, first + 1, at - 1);
            } else {
                tree.emit(kind == T_RET ? O_RET : called ? O_DROP : O_SET, first, 0);
            }
        }

        /** Reads an expr, or the call of a statement; false with an error at the token that cannot go on. */
        private boolean expr(boolean called) {
            level = 0;
            push(called ? CALL : TOP, at);
            at += called ? 2 : 0;
            int state = WANT;
            for (int round = 0; round <= count + 1; round++) {
                state = state == WANT ? operand() : behind();
                if (state == SHUT) {
                    level--;
                    tree.emit(shapes[level] == GROUP ? O_GROUP : O_CALL, openers[level], sizes[level]);
                    at++;
                    state = level == 0 ? OVER : HAVE;
                }
                if (state == FAILED || state == OVER) {
                    return state == OVER;
                }
            }
            return false;
        }

        private void push(int shape, int opener) {
            if (level < STRIDE) {
                shapes[level] = shape;
                openers[level] = opener;
                sizes[level] = 0;
                nots[level] = NONE;
                timeses[level] = NONE;
                adds[level] = NONE;
                compares[level] = NONE;
                level++;
            }
        }

        private int operand() {
            int kind = kind(at);
            int top = level - 1;
            if (kind == T_NOT && nots[top] == NONE) {
                nots[top] = at;
                at++;
                return WANT;
            }
            if (kind == T_NAME && kind(at + 1) == T_OPEN) {
                push(CALL, at);
                at += 2;
                return WANT;
            }
            if (kind == T_OPEN) {
                push(GROUP, at);
                at++;
                return WANT;
            }
            if (kind == T_CLOSE && shapes[top] == CALL && at == openers[top] + 2) {
                return SHUT;
            }
            if (kind != T_NAME && kind != T_NUM && kind != T_YES && kind != T_NO) {
                return FAILED;
            }
            tree.emit(O_LEAF, at, 0);
            at++;
            return HAVE;
        }

        private int behind() {
            int kind = kind(at);
            int top = level - 1;
            if (nots[top] != NONE) {
                tree.emit(O_NOT, nots[top], 0);
                nots[top] = NONE;
            }
            if (timeses[top] != NONE) {
                tree.emit(O_PAIR, timeses[top], 0);
                timeses[top] = NONE;
            }
            if (kind == T_TIMES) {
                timeses[top] = at;
                at++;
                return WANT;
            }
            if (adds[top] != NONE) {
                tree.emit(O_PAIR, adds[top], 0);
                adds[top] = NONE;
            }
            if (kind == T_PLUS || kind == T_MINUS) {
                adds[top] = at;
                at++;
                return WANT;
            }
            boolean compared = compares[top] != NONE;
            if (compared) {
                tree.emit(O_PAIR, compares[top], 0);
                compares[top] = NONE;
            } else if (kind == T_SAME || kind == T_LESS) {
                compares[top] = at;
                at++;
                return WANT;
            }
            return closeExpr(kind, top);
        }

        private int closeExpr(int kind, int top) {
            if (shapes[top] == TOP) {
                return OVER;
            }
            if (shapes[top] == CALL) {
                sizes[top]++;
                if (kind == T_COMMA) {
                    at++;
                    return WANT;
                }
            }
            return kind == T_CLOSE ? SHUT : FAILED;
        }
    }

    /** The variables and parameters that are in scope while a tree's code is gone through. */
    private static final class Scope {
        private final int[] names = new int[STRIDE];
        private final int[] marks = new int[STRIDE];
        private int height;
        private int depth;
        private int function;
        private int params;

        void begin() {
            height = 0;
            depth = 0;
            function = NONE;
            params = 0;
        }

        void step(int word) {
            int op = opOf(word);
            if (op == O_FN) {
                begin();
                function = tokenOf(word);
                params = extraOf(word);
            } else if (op == O_BLOCK && depth < STRIDE) {
                marks[depth] = height;
                depth++;
            } else if (op == O_END && depth > 0) {
                depth--;
                height = marks[depth];
            } else if (op == O_LET && height < STRIDE) {
                names[height] = tokenOf(word);
                height++;
            }
        }

        /** The token that declares what a name of this token's text is bound to here. */
        int find(Desk desk, int file, int token) {
            int id = file * STRIDE + token;
            for (int i = height - 1; i >= 0; i--) {
                if (desk.sameText(id, file * STRIDE + names[i])) {
                    return names[i];
                }
            }
            for (int i = 0; i < params; i++) {
                int param = function + 2 + 2 * i;
                if (desk.sameText(id, file * STRIDE + param)) {
                    return param;
                }
            }
            return NONE;
        }
    }

    /** Three files with all that is read from them. */
    private static final class Desk {
        private final Lines lines = new Lines();
        private final Tokens[] rows = new Tokens[FILES];
        private final Tree[] trees = new Tree[FILES];
        /** The id to which each token is bound. */
        private final int[] bound = new int[IDS];
        private final Reader reader;
        private final Scope scope = new Scope();
        private boolean stale = true;

        Desk() {
            for (int file = 0; file < FILES; file++) {
                rows[file] = new Tokens();
                trees[file] = new Tree();
            }
            reader = new Reader(trees[0]);
        }

        void refresh() {
            for (int file = 0; file < FILES; file++) {
                rows[file].gather(lines, file);
                reader.read(rows[file].kinds, rows[file].count, trees[file]);
            }
            Arrays.fill(bound, NONE);
            for (int file = 0; file < FILES; file++) {
                bindFile(file);
            }
            stale = false;
        }

        private void bindFile(int file) {
            Tree tree = trees[file];
            int base = file * STRIDE;
            scope.begin();
            for (int i = 0; i < tree.size; i++) {
                int word = tree.code[i];
                int op = opOf(word);
                int token = tokenOf(word);
                scope.step(word);
                if (op == O_FN) {
                    bound[base + token] = base + token;
                    bindParams(base + token, extraOf(word));
                } else if (op == O_LET) {
                    bound[base + token] = base + token;
                } else if (op == O_CALL) {
                    bound[base + token] = functionFor(file, base + token);
                } else if (op == O_SET || op == O_LEAF && rows[file].kind(token) == T_NAME) {
                    int found = scope.find(this, file, token);
                    bound[base + token] = found == NONE ? NONE : base + found;
                }
            }
        }

        private void bindParams(int id, int params) {
            for (int i = 0; i < params; i++) {
                int param = id + 2 + 2 * i;
                if (param < IDS) {
                    bound[param] = param;
                }
            }
        }

        private int functionFor(int file, int id) {
            int found = firstFunction(file, id);
            Tree tree = trees[file];
            for (int i = 0; found == NONE && i < tree.useCount; i++) {
                found = firstFunction(usedFile(file, tree.uses[i]), id);
            }
            return found;
        }

        private int firstFunction(int file, int id) {
            if (file < 0 || file >= FILES) {
                return NONE;
            }
            Tree tree = trees[file];
            for (int i = 0; i < tree.fnCount; i++) {
                int declared = file * STRIDE + tree.fnNames[i];
                if (sameText(id, declared)) {
                    return declared;
                }
            }
            return NONE;
        }

        /** The file that is named by the NAME of a USE item; NONE if it names none. */
        int usedFile(int file, int token) {
            Tokens row = rows[file];
            if (row.kind(token) != T_NAME || row.sizes[token] != 1) {
                return NONE;
            }
            int used = lines.sign(file * LINES + row.lineOf[token], row.columns[token]) - 'a';
            return used < FILES ? used : NONE;
        }

        boolean sameText(int one, int two) {
            if (one < 0 || one >= IDS || two < 0 || two >= IDS) {
                return false;
            }
            Tokens first = rows[one / STRIDE];
            Tokens second = rows[two / STRIDE];
            int a = one % STRIDE;
            int b = two % STRIDE;
            if (a >= first.count || b >= second.count || first.sizes[a] != second.sizes[b]) {
                return false;
            }
            int rowA = one / STRIDE * LINES + first.lineOf[a];
            int rowB = two / STRIDE * LINES + second.lineOf[b];
            for (int i = 0; i < first.sizes[a]; i++) {
                if (lines.sign(rowA, first.columns[a] + i) != lines.sign(rowB, second.columns[b] + i)) {
                    return false;
                }
            }
            return true;
        }

        boolean isFunction(int id) {
            return id >= 0 && id < IDS && trees[id / STRIDE].functionOf(id % STRIDE) != NONE;
        }

        int paramsOf(int id) {
            if (!isFunction(id)) {
                return 0;
            }
            Tree tree = trees[id / STRIDE];
            return tree.fnParams[tree.functionOf(id % STRIDE)];
        }
    }

    /** Finds types by making slots alike: one slot for each token, and one each for INT and BOOL. */
    private static final class Types {
        private static final int INT_SLOT = IDS, BOOL_SLOT = IDS + 1, SLOTS = IDS + 2;

        private final int[] heads = new int[SLOTS];
        private final int[] slots = new int[STRIDE];
        /** The first tokens of the exprs whose slots are stacked. */
        private final int[] firsts = new int[STRIDE];
        private int top;
        private final int[] told = new int[2 * IDS];
        private int errors;

        void findAll(Desk desk) {
            errors = 0;
            for (int slot = 0; slot < SLOTS; slot++) {
                heads[slot] = slot;
            }
            for (int file = 0; file < FILES; file++) {
                Tree tree = desk.trees[file];
                int function = NONE;
                top = 0;
                for (int i = 0; i < tree.size; i++) {
                    int word = tree.code[i];
                    if (opOf(word) == O_FN) {
                        function = file * STRIDE + tokenOf(word);
                    }
                    if (opOf(word) >= O_LEAF) {
                        part(desk, file, word);
                    } else {
                        whole(desk, file, word, function);
                    }
                }
            }
        }

        private void whole(Desk desk, int file, int word, int function) {
            int op = opOf(word);
            int id = file * STRIDE + tokenOf(word);
            if (top == 0 || op != O_LET && op != O_SET && op != O_RET && op != O_IF && op != O_DROP) {
                return;
            }
            top--;
            if (op == O_LET || op == O_SET) {
                alike(slots[top], slotOf(desk, id), firsts[top]);
            } else if (op == O_RET) {
                alike(slots[top], function, firsts[top]);
            } else if (op == O_IF) {
                alike(slots[top], BOOL_SLOT, firsts[top]);
            }
        }

        private void part(Desk desk, int file, int word) {
            int op = opOf(word);
            int id = file * STRIDE + tokenOf(word);
            int kind = desk.rows[file].kind(tokenOf(word));
            if (op == O_LEAF) {
                push(kind == T_NUM ? INT_SLOT : kind == T_NAME ? slotOf(desk, id) : BOOL_SLOT, id);
            } else if (op == O_CALL) {
                call(desk, id, extraOf(word));
            } else if (op == O_GROUP && top > 0) {
                firsts[top - 1] = id;
            } else if (op == O_NOT && top > 0) {
                alike(slots[top - 1], BOOL_SLOT, firsts[top - 1]);
                slots[top - 1] = BOOL_SLOT;
                firsts[top - 1] = id;
            } else if (op == O_PAIR && top > 1) {
                top--;
                if (kind == T_SAME) {
                    alike(slots[top], slots[top - 1], firsts[top]);
                } else {
                    alike(slots[top - 1], INT_SLOT, firsts[top - 1]);
                    alike(slots[top], INT_SLOT, firsts[top]);
                }
                slots[top - 1] = kind == T_SAME || kind == T_LESS ? BOOL_SLOT : INT_SLOT;
            }
        }

        private void call(Desk desk, int id, int exprs) {
            int target = desk.bound[id];
            int base = Math.max(0, top - exprs);
            if (target != NONE && desk.paramsOf(target) != exprs) {
                tell(id);
            } else if (target != NONE) {
                for (int i = 0; i < exprs && base + i < top; i++) {
                    alike(slots[base + i], target + 2 + 2 * i, firsts[base + i]);
                }
            }
            top = base;
            push(slotOf(desk, id), id);
        }

        private void push(int slot, int first) {
            if (top < STRIDE) {
                slots[top] = slot;
                firsts[top] = first;
                top++;
            }
        }

        /** What is bound to nothing has a type of its own, in its own slot. */
        private static int slotOf(Desk desk, int id) {
            int target = desk.bound[id];
            return target == NONE ? id : target;
        }

        private void alike(int slot, int other, int first) {
            int one = headOf(slot);
            int two = headOf(other);
            if (one == two) {
                return;
            }
            if (one >= INT_SLOT && two >= INT_SLOT) {
                tell(first);
            } else if (one >= INT_SLOT) {
                heads[two] = one;
            } else {
                heads[one] = two;
            }
        }

        private void tell(int id) {
            if (errors < told.length) {
                told[errors] = id;
                errors++;
            }
        }

        private int headOf(int slot) {
            int head = slot < 0 || slot >= SLOTS ? 0 : slot;
            for (int i = 0; i < SLOTS && heads[head] != head; i++) {
                head = heads[head];
            }
            return head;
        }

        int typeAt(int id) {
            int head = id == NONE ? NONE : headOf(id);
            return head == INT_SLOT ? INT : head == BOOL_SLOT ? BOOL : UNKNOWN;
        }
    }

    /** The least edits that make a short run a statement: the cost of each sign of the grammar for each part of it. */
    private static final class Repair {
        private static final int LONGEST = 10, SIDE = LONGEST + 1, FAR = 1000;
        private static final int G_LET = 0, G_NAME = 1, G_ASSIGN = 2, G_SEMICOLON = 3, G_OPEN = 4, G_CLOSE = 5,
                G_RET = 6, G_COMMA = 7, G_ATOM = 8, G_COMPARE = 9, G_ADD = 10, G_TIMES = 11, G_NOT = 12, ENDS = 13;
        private static final int PLAIN = 13, CALL = 14, ARGS = 15, REST = 16, EXPRS = 17, MORE = 18, GROUP = 19,
                CLOSED = 20, UNIT = 21, PRODUCT = 22, FACTOR = 23, SUM = 24, SUMMAND = 25, EXPR = 26, SIDED = 27,
                VALUE = 28, GIVEN = 29, SETTING = 30, STATEMENT = 31, KINDS = 32;
        /** The classes that each sign of the grammar stands for, as bits. */
        private static final int[] CLASSES = {1 << T_LET, 1 << T_NAME, 1 << T_ASSIGN, 1 << T_SEMICOLON, 1 << T_OPEN,
            1 << T_CLOSE, 1 << T_RET, 1 << T_COMMA, 1 << T_NAME | 1 << T_NUM | 1 << T_YES | 1 << T_NO,
            1 << T_SAME | 1 << T_LESS, 1 << T_PLUS | 1 << T_MINUS, 1 << T_TIMES, 1 << T_NOT};
        /** Rules in threes: what is made, and the two parts that follow each other; the second can be missing. */
        private static final int[] RULES = {
            PLAIN, G_ATOM, NONE, PLAIN, CALL, NONE, PLAIN, GROUP, NONE,
            CALL, G_NAME, ARGS, ARGS, G_OPEN, REST, REST, G_CLOSE, NONE, REST, EXPRS, G_CLOSE,
            EXPRS, EXPR, NONE, EXPRS, EXPR, MORE, MORE, G_COMMA, EXPRS,
            GROUP, G_OPEN, CLOSED, CLOSED, EXPR, G_CLOSE,
            UNIT, PLAIN, NONE, UNIT, G_NOT, PLAIN,
            PRODUCT, UNIT, NONE, PRODUCT, PRODUCT, FACTOR, FACTOR, G_TIMES, UNIT,
            SUM, PRODUCT, NONE, SUM, SUM, SUMMAND, SUMMAND, G_ADD, PRODUCT,
            EXPR, SUM, NONE, EXPR, SUM, SIDED, SIDED, G_COMPARE, SUM,
            VALUE, EXPR, G_SEMICOLON, GIVEN, G_ASSIGN, VALUE, SETTING, G_NAME, GIVEN,
            STATEMENT, SETTING, NONE, STATEMENT, G_LET, SETTING, STATEMENT, G_RET, VALUE,
            STATEMENT, CALL, G_SEMICOLON};

        private final int[] costs = new int[KINDS * SIDE * SIDE];

        int least(Tokens row, int first, int last) {
            int size = last - first + 1;
            if (first < 0 || size < 1 || size > LONGEST) {
                return NONE;
            }
            for (int length = 0; length <= size; length++) {
                for (int from = 0; from + length <= size; from++) {
                    begin(row, first, from, from + length);
                    settle(from, from + length);
                }
            }
            return costs[place(STATEMENT, 0, size)];
        }

        private static int place(int kind, int from, int to) {
            return (kind * SIDE + from) * SIDE + to;
        }

        /** A token of the grammar costs all tokens of the part taken out, but one that fits, or that one put in. */
        private void begin(Tokens row, int first, int from, int to) {
            int seen = 0;
            for (int i = from; i < to; i++) {
                seen |= 1 << row.kind(first + i);
            }
            for (int kind = 0; kind < KINDS; kind++) {
                int cost = FAR;
                if (kind < ENDS) {
                    cost = to - from + ((seen & CLASSES[kind]) != 0 ? -1 : 1);
                }
                costs[place(kind, from, to)] = cost;
            }
        }

        /** Rules can need each other's costs of the same part, so they are gone through until nothing gets less. */
        private void settle(int from, int to) {
            boolean less = true;
            for (int round = 0; less && round < FAR; round++) {
                less = false;
                for (int rule = 0; rule + 2 < RULES.length; rule += 3) {
                    int at = place(RULES[rule], from, to);
                    int cost = costOf(RULES[rule + 1], RULES[rule + 2], from, to);
                    if (cost < costs[at]) {
                        costs[at] = cost;
                        less = true;
                    }
                }
            }
        }

        private int costOf(int left, int right, int from, int to) {
            if (right == NONE) {
                return costs[place(left, from, to)];
            }
            int least = FAR;
            for (int middle = from; middle <= to; middle++) {
                least = Math.min(least, costs[place(left, from, middle)] + costs[place(right, middle, to)]);
            }
            return least;
        }
    }

    /** Goes through a tree's code with a row of values: runs functions, and prints trees. */
    private static final class Runner {
        private static final int FRAMES = 4, STEPS = 200, ROOM = FRAMES * STRIDE, ROUNDS = 1000000;

        private final long[] slots = new long[ROOM];
        private final long[] values = new long[ROOM];
        private final int[] places = new int[FRAMES];
        private final int[] files = new int[FRAMES];
        private int depth;
        private int top;
        private int steps;
        private int file;
        private int place;
        private long result;

        long give(Desk desk, int function, long x, long y) {
            depth = 0;
            top = 0;
            steps = 0;
            result = 0;
            push(x);
            push(y);
            enter(desk, function, 2);
            for (int round = 0; round < ROUNDS && depth > 0; round++) {
                Tree tree = desk.trees[file];
                int word = place < tree.size ? tree.code[place] : O_DONE;
                place++;
                if (opOf(word) >= O_LEAF) {
                    part(desk, word);
                } else {
                    whole(desk, word);
                }
            }
            return result;
        }

        private void push(long value) {
            if (top < ROOM) {
                values[top] = value;
                top++;
            }
        }

        private long pop() {
            if (top <= 0) {
                return 0;
            }
            top--;
            return values[top];
        }

        private void enter(Desk desk, int function, int exprs) {
            int base = depth * STRIDE;
            int params = desk.paramsOf(function);
            int from = Math.max(0, top - exprs);
            Arrays.fill(slots, base, base + STRIDE, 0);
            for (int i = 0; i < params && i < exprs; i++) {
                int slot = function % STRIDE + 2 + 2 * i;
                if (slot < STRIDE) {
                    slots[base + slot] = values[from + i];
                }
            }
            top = from;
            places[depth] = place;
            files[depth] = file;
            depth++;
            file = function / STRIDE;
            Tree tree = desk.trees[file];
            place = tree.fnStarts[Math.max(0, tree.functionOf(function % STRIDE))];
        }

        private void leave(long value) {
            depth--;
            place = places[depth];
            file = files[depth];
            result = value;
            push(value);
        }

        private void whole(Desk desk, int word) {
            int token = tokenOf(word);
            switch (opOf(word)) {
                case O_STEP:
                    if (steps >= STEPS) {
                        leave(0);
                    } else {
                        steps++;
                    }
                    break;
                case O_LET:
                case O_SET:
                    store(desk.bound[file * STRIDE + token], pop());
                    break;
                case O_DROP:
                    pop();
                    break;
                case O_RET:
                    leave(pop());
                    break;
                case O_IF:
                    place = pop() == 0 ? extraOf(word) : place;
                    break;
                case O_ELSE:
                    place = extraOf(word);
                    break;
                case O_DONE:
                    leave(0);
                    break;
                default:
            }
        }

        private void part(Desk desk, int word) {
            int token = tokenOf(word);
            int kind = desk.rows[file].kind(token);
            int op = opOf(word);
            if (op == O_LEAF) {
                push(kind == T_NUM ? number(desk, token) : kind == T_NAME ? read(desk.bound[file * STRIDE + token])
                        : kind == T_YES ? 1 : 0);
            } else if (op == O_CALL) {
                call(desk, desk.bound[file * STRIDE + token], extraOf(word));
            } else if (op == O_NOT) {
                push(pop() == 0 ? 1 : 0);
            } else if (op == O_PAIR) {
                long right = pop();
                push(pair(kind, pop(), right));
            }
        }

        private static long pair(int kind, long left, long right) {
            switch (kind) {
                case T_SAME: return left == right ? 1 : 0;
                case T_LESS: return left < right ? 1 : 0;
                case T_PLUS: return left + right;
                case T_MINUS: return left - right;
                default: return left * right;
            }
        }

        private long number(Desk desk, int token) {
            Tokens row = desk.rows[file];
            long value = 0;
            for (int i = 0; i < row.sizes[token]; i++) {
                char sign = desk.lines.sign(file * LINES + row.lineOf[token], row.columns[token] + i);
                value = 10 * value + (sign - '0');
            }
            return value;
        }

        private int slotAt(int id) {
            return (depth - 1) * STRIDE + id % STRIDE;
        }

        private long read(int id) {
            return id == NONE ? 0 : slots[slotAt(id)];
        }

        private void store(int id, long value) {
            if (id != NONE) {
                slots[slotAt(id)] = value;
            }
        }

        private void call(Desk desk, int function, int exprs) {
            if (function == NONE || steps >= STEPS || depth >= FRAMES) {
                top = Math.max(0, top - exprs);
                push(0);
            } else {
                steps++;
                enter(desk, function, exprs);
            }
        }

        /** The print of an expr makes p times a factor and a sum, so exprs behind their operators can be joined. */
        long print(Tokens row, Tree tree) {
            long p = 7;
            top = 0;
            for (int i = 0; i < tree.size; i++) {
                int word = tree.code[i];
                int op = opOf(word);
                if (op >= O_LEAF) {
                    boolean statement = i + 1 < tree.size && opOf(tree.code[i + 1]) == O_DROP;
                    printPart(row, word, statement);
                    continue;
                }
                int number = numberOf(op);
                p = number == 0 ? p : 31 * p + number;
                if (op == O_FN) {
                    p = 31 * p + extraOf(word);
                } else if (top > 0 && (op == O_LET || op == O_SET || op == O_RET || op == O_IF || op == O_DROP)) {
                    top--;
                    p = values[top] * p + slots[top];
                }
            }
            return p;
        }

        /** The number that a statement or an item prints; 0 for what prints none. */
        private static int numberOf(int op) {
            switch (op) {
                case O_USE: return 1;
                case O_FN: return 2;
                case O_BLOCK: return 3;
                case O_END: return 4;
                case O_LET: return 5;
                case O_SET: return 6;
                case O_RET: return 9;
                case O_IF: return 10;
                case O_ELSE: return 11;
                case O_BROKEN: return 12;
                default: return 0;
            }
        }

        private void printPart(Tokens row, int word, boolean statement) {
            int op = opOf(word);
            if (op == O_LEAF) {
                stack(31, 13);
            } else if (op == O_NOT) {
                join(Math.max(0, top - 1), 16, 0);
            } else if (op == O_PAIR) {
                join(Math.max(0, top - 2), row.kind(tokenOf(word)), 0);
            } else if (op == O_CALL) {
                join(Math.max(0, top - extraOf(word)), statement ? 7 : 14, statement ? 8 : 15);
            }
        }

        private void stack(long factor, long sum) {
            if (top < ROOM) {
                values[top] = factor;
                slots[top] = sum;
                top++;
            }
        }

        /** Makes one of a number, the prints stacked from a place on, and another number, if it is not 0. */
        private void join(int from, int ahead, int behind) {
            long factor = 31;
            long sum = ahead;
            for (int i = from; i < top; i++) {
                sum = values[i] * sum + slots[i];
                factor *= values[i];
            }
            if (behind != 0) {
                sum = 31 * sum + behind;
                factor *= 31;
            }
            top = from;
            stack(factor, sum);
        }
    }

    /** Tells what may stand at a place, and which names are in scope there. */
    private static final class Completer {
        private static final int ROOM = 300;

        private final int[] trial = new int[STRIDE];
        private final Tree probe = new Tree();
        private final int[] found = new int[ROOM];
        private int count;

        int maySet(Desk desk, int file, int place) {
            int set = 0;
            int ahead = takeAhead(desk.rows[file], place);
            for (int kind = T_NAME; kind <= T_END; kind++) {
                trial[ahead] = kind;
                desk.reader.read(trial, kind == T_END ? ahead : ahead + 1, probe);
                if (!probe.tells(ahead)) {
                    set |= 1 << kind;
                }
            }
            return set;
        }

        private int takeAhead(Tokens row, int place) {
            int ahead = Math.max(0, Math.min(place, row.count));
            System.arraycopy(row.kinds, 0, trial, 0, ahead);
            return ahead;
        }

        void gather(Desk desk, int file, int place, char[] name, int letters) {
            count = 0;
            if ((maySet(desk, file, place) & 1 << T_NAME) == 0) {
                return;
            }
            int ahead = takeAhead(desk.rows[file], place);
            desk.reader.read(trial, ahead, probe);
            addLocals(desk, file, ahead);
            int locals = count;
            addFunctions(desk, file, locals);
            Tree tree = desk.trees[file];
            for (int i = 0; i < tree.useCount; i++) {
                addFunctions(desk, desk.usedFile(file, tree.uses[i]), locals);
            }
            keepBegun(desk, name, letters);
        }

        private void addLocals(Desk desk, int file, int ahead) {
            Scope scope = desk.scope;
            int end = openEnd(ahead);
            if (end == NONE) {
                return;
            }
            scope.begin();
            for (int i = 0; i < end; i++) {
                scope.step(probe.code[i]);
            }
            for (int i = scope.height - 1; i >= 0; i--) {
                addNew(desk, file * STRIDE + scope.names[i], 0);
            }
            for (int i = 0; i < scope.params; i++) {
                addNew(desk, file * STRIDE + scope.function + 2 + 2 * i, 0);
            }
        }

        /** The first end of a block that END ends. */
        private int openEnd(int ahead) {
            for (int i = 0; i < probe.size; i++) {
                int word = probe.code[i];
                if (opOf(word) == O_END && extraOf(word) == 0 && tokenOf(word) == ahead) {
                    return i;
                }
            }
            return NONE;
        }

        private void addFunctions(Desk desk, int file, int locals) {
            if (file < 0 || file >= FILES) {
                return;
            }
            Tree tree = desk.trees[file];
            for (int i = 0; i < tree.fnCount; i++) {
                addNew(desk, file * STRIDE + tree.fnNames[i], locals);
            }
        }

        private void addNew(Desk desk, int id, int from) {
            for (int i = from; i < count; i++) {
                if (desk.sameText(found[i], id)) {
                    return;
                }
            }
            if (count < ROOM) {
                found[count] = id;
                count++;
            }
        }

        private void keepBegun(Desk desk, char[] name, int letters) {
            int kept = 0;
            for (int i = 0; i < count; i++) {
                if (begins(desk, found[i], name, letters)) {
                    found[kept] = found[i];
                    kept++;
                }
            }
            count = kept;
        }

        private static boolean begins(Desk desk, int id, char[] name, int letters) {
            Tokens row = desk.rows[id / STRIDE];
            int token = id % STRIDE;
            if (letters > name.length || letters > row.sizes[token]) {
                return false;
            }
            int at = id / STRIDE * LINES + row.lineOf[token];
            for (int i = 0; i < letters; i++) {
                if (desk.lines.sign(at, row.columns[token] + i) != name[i]) {
                    return false;
                }
            }
            return true;
        }
    }

    /** The planned changes; they are tried on a draft of the files, which is taken over when nothing speaks against. */
    private static final class Plan {
        private static final int RENAME = 0, INLINE = 1, MOVE = 2;

        private final Desk draft = new Desk();
        private final int[] kinds = new int[CHANGES];
        private final int[] files = new int[CHANGES];
        private final int[] tokens = new int[CHANGES];
        private final int[] others = new int[CHANGES];
        private final char[] names = new char[CHANGES * LETTERS];
        private final int[] sizes = new int[CHANGES];
        private int count;
        private boolean disturbed;
        /** How tokens were bound, and with which one each row began, ahead of a change. */
        private final int[] oldBound = new int[IDS];
        private final int[] oldFirsts = new int[ROWS];
        /** What each token has become by it. */
        private final int[] become = new int[IDS];
        /** What comes instead of a name. */
        private final char[] text = new char[MOST];
        private int textSize;
        private final char[] line = new char[WIDE];

        void disturb() {
            disturbed = true;
        }

        int wipe() {
            int had = count;
            count = 0;
            return had;
        }

        private int add(int kind, int file, int token, int other) {
            if (count == 0) {
                disturbed = false;
            }
            if (count < CHANGES) {
                kinds[count] = kind;
                files[count] = file;
                tokens[count] = token;
                others[count] = other;
                sizes[count] = 0;
                count++;
            }
            return count;
        }

        int addRename(int file, int token, char[] name, int letters) {
            if (count < CHANGES && letters <= LETTERS && letters <= name.length) {
                System.arraycopy(name, 0, names, count * LETTERS, letters);
                add(RENAME, file, token, NONE);
                sizes[count - 1] = letters;
            }
            return count;
        }

        int addInline(int file, int token) {
            return add(INLINE, file, token, NONE);
        }

        int addMove(int file, int token, int other) {
            return add(MOVE, file, token, other);
        }

        /** Does the changes on the draft, up to the first one that cannot be done, and returns the reason. */
        int against(Desk now) {
            if (count == 0 || disturbed) {
                return count == 0 ? 0 : 1;
            }
            draft.lines.copyFrom(now.lines);
            draft.refresh();
            int why = 0;
            for (int i = 0; i < count && why == 0; i++) {
                keepOld();
                why = kinds[i] == RENAME ? rename(i) : kinds[i] == INLINE ? inline(i) : move(i);
                if (why == 0) {
                    draft.refresh();
                    follow();
                }
                for (int pair = 0; kinds[i] == MOVE && why == 0 && pair < FILES * FILES; pair++) {
                    if (needsUse(pair / FILES, pair % FILES)) {
                        why = addUse(pair / FILES, pair % FILES);
                        draft.refresh();
                        follow();
                    }
                }
                if (why == 0 && kinds[i] != INLINE && bindsOtherwise()) {
                    why = 4;
                }
            }
            return why;
        }

        private void keepOld() {
            draft.lines.numberOrigins();
            System.arraycopy(draft.bound, 0, oldBound, 0, IDS);
            Arrays.fill(oldFirsts, NONE);
            for (int file = 0; file < FILES; file++) {
                Tokens row = draft.rows[file];
                for (int token = row.count - 1; token >= 0; token--) {
                    oldFirsts[file * LINES + row.lineOf[token]] = file * STRIDE + token;
                }
            }
        }

        /** Tokens are followed by the rows from which theirs come, and their places among the tokens of these. */
        private void follow() {
            Arrays.fill(become, NONE);
            for (int file = 0; file < FILES; file++) {
                Tokens row = draft.rows[file];
                int first = 0;
                for (int token = 0; token < row.count; token++) {
                    if (row.lineOf[first] != row.lineOf[token]) {
                        first = token;
                    }
                    int origin = draft.lines.origins[file * LINES + row.lineOf[token]];
                    int old = origin == NONE || oldFirsts[origin] == NONE ? NONE : oldFirsts[origin] + token - first;
                    if (old != NONE && old < IDS) {
                        become[old] = file * STRIDE + token;
                    }
                }
            }
        }

        private boolean bindsOtherwise() {
            for (int old = 0; old < IDS; old++) {
                int token = become[old];
                int target = oldBound[old] == NONE ? NONE : become[oldBound[old]];
                if (token != NONE && draft.bound[token] != target) {
                    return true;
                }
            }
            return false;
        }

        private int rename(int i) {
            int id = files[i] * STRIDE + tokens[i];
            int from = i * LETTERS;
            if (draft.bound[id] != id || sizes[i] == 0 || kindOfWord(names, from, sizes[i]) != T_NAME) {
                return 2;
            }
            textSize = sizes[i];
            System.arraycopy(names, from, text, 0, textSize);
            return rewriteAll(id, NONE, 0, 0);
        }

        /** Puts the text for all that is bound to an id, and takes some chars of one row out. */
        private int rewriteAll(int id, int cutRow, int from, int to) {
            for (int row = 0; row < ROWS; row++) {
                boolean cut = row == cutRow;
                if (!rewrite(row, id, cut ? from : 0, cut ? to : 0)) {
                    return 3;
                }
            }
            return 0;
        }

        private boolean rewrite(int row, int id, int from, int to) {
            Tokens known = draft.rows[row / LINES];
            int base = row / LINES * STRIDE;
            int size = 0;
            for (int column = 0; column < draft.lines.size(row); column++) {
                int owner = known.owner(row % LINES, column);
                boolean other = owner >= 0 && draft.bound[base + owner] == id;
                if (column >= from && column < to || other && known.columns[owner] != column) {
                    continue;
                }
                int span = other ? textSize : 1;
                if (size + span > WIDE) {
                    return false;
                }
                for (int i = 0; i < span; i++) {
                    line[size + i] = other ? text[i] : draft.lines.sign(row, column);
                }
                size += span;
            }
            draft.lines.fill(row, line, size);
            return true;
        }

        private int inline(int i) {
            int file = files[i];
            int token = tokens[i];
            Tokens row = draft.rows[file];
            int end = endOfLet(file, token);
            if (end == NONE || row.line(token - 1) != row.line(end)) {
                return 2;
            }
            int id = file * STRIDE + token;
            if (calls(row, token + 2, end) || written(file, id, end) || !boundAlike(file, id, end)) {
                return 2;
            }
            joinText(file, token + 2, end);
            return rewriteAll(id, file * LINES + row.line(end), row.columns[token - 1], row.columns[end] + 1);
        }

        /** The ; of the LET that declares a token; NONE if none does. */
        private int endOfLet(int file, int token) {
            Tree tree = draft.trees[file];
            for (int i = 0; i < tree.size; i++) {
                int word = tree.code[i];
                if (opOf(word) == O_LET && tokenOf(word) == token) {
                    return extraOf(word);
                }
            }
            return NONE;
        }

        private static boolean calls(Tokens row, int from, int to) {
            for (int token = from; token < to; token++) {
                if (row.kind(token) == T_NAME && row.kind(token + 1) == T_OPEN) {
                    return true;
                }
            }
            return false;
        }

        /** Whether a statement gives a value to the variable, or to what its expr speaks of. */
        private boolean written(int file, int id, int end) {
            Tree tree = draft.trees[file];
            for (int i = 0; i < tree.size; i++) {
                int word = tree.code[i];
                int target = opOf(word) == O_SET ? draft.bound[file * STRIDE + tokenOf(word)] : NONE;
                boolean hit = target != NONE && target == id;
                for (int e = id + 2; target != NONE && e < file * STRIDE + end; e++) {
                    hit |= draft.bound[e] == target;
                }
                if (hit) {
                    return true;
                }
            }
            return false;
        }

        /** Whether the names of the expr would be bound as they are at each place that gets it. */
        private boolean boundAlike(int file, int id, int end) {
            Tree tree = draft.trees[file];
            Scope scope = draft.scope;
            scope.begin();
            for (int i = 0; i < tree.size; i++) {
                int word = tree.code[i];
                scope.step(word);
                boolean place = opOf(word) == O_LEAF && draft.bound[file * STRIDE + tokenOf(word)] == id;
                for (int e = id % STRIDE + 2; place && e < end; e++) {
                    int found = scope.find(draft, file, e);
                    int target = found == NONE ? NONE : file * STRIDE + found;
                    if (draft.rows[file].kind(e) == T_NAME && draft.bound[file * STRIDE + e] != target) {
                        return false;
                    }
                }
            }
            return true;
        }

        private void joinText(int file, int from, int to) {
            Tokens row = draft.rows[file];
            boolean more = to - from > 1;
            textSize = 0;
            if (more) {
                write('(');
            }
            for (int token = from; token < to; token++) {
                if (token > from && row.kind(token - 1) < T_OPEN && row.kind(token) < T_OPEN) {
                    write(' ');
                }
                for (int i = 0; i < row.sizes[token]; i++) {
                    write(draft.lines.sign(file * LINES + row.lineOf[token], row.columns[token] + i));
                }
            }
            if (more) {
                write(')');
            }
        }

        private void write(char sign) {
            if (textSize < text.length) {
                text[textSize] = sign;
                textSize++;
            }
        }

        private int move(int i) {
            int file = files[i];
            int other = others[i];
            Tree tree = draft.trees[file];
            Tokens row = draft.rows[file];
            Tokens target = draft.rows[other];
            int function = tree.functionOf(tokens[i]);
            int last = function == NONE ? NONE : tree.fnLasts[function];
            if (last == NONE) {
                return 2;
            }
            int first = tokens[i] - 1;
            int top = row.line(first);
            int bottom = row.line(last);
            int at = target.count == 0 ? 0 : target.line(target.count - 1) + 1;
            if (row.line(first - 1) == top || row.line(last + 1) == bottom || row.endsInside(top - 1)
                    || row.endsInside(bottom) || target.endsInside(at - 1)) {
                return 2;
            }
            if (!draft.lines.openRows(other, at, bottom - top + 1)) {
                return 3;
            }
            for (int line = top; line <= bottom; line++) {
                draft.lines.copyRow(draft.lines, file * LINES + line, other * LINES + at + line - top);
            }
            draft.lines.closeRows(file, top, bottom - top + 1);
            return 0;
        }

        /** Whether a file calls what is in another one now, and does not use that. */
        private boolean needsUse(int file, int other) {
            Tree tree = draft.trees[file];
            for (int i = 0; i < tree.useCount; i++) {
                if (file == other || draft.usedFile(file, tree.uses[i]) == other) {
                    return false;
                }
            }
            boolean needed = false;
            for (int old = 0; old < IDS && file != other; old++) {
                int token = become[old];
                int target = oldBound[old] == NONE ? NONE : become[oldBound[old]];
                needed |= token >= 0 && target >= 0 && token / STRIDE == file && target / STRIDE == other;
            }
            return needed;
        }

        private int addUse(int file, int other) {
            if (!draft.lines.openRows(file, 0, 1)) {
                return 3;
            }
            String use = "use ";
            int row = file * LINES;
            for (int i = 0; i < use.length(); i++) {
                draft.lines.put(row, i, use.charAt(i));
            }
            draft.lines.put(row, use.length(), (char) ('a' + other));
            draft.lines.put(row, use.length() + 1, ';');
            return 0;
        }
    }
}
