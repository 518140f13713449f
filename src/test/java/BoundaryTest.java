import java.lang.reflect.InvocationTargetException;
import java.lang.reflect.Method;
import java.lang.reflect.Modifier;
import java.util.ArrayList;
import java.util.List;
import java.util.TreeSet;

/**
 * The sentences of the document that name a boundary: too small, too large, empty, full, first, last, a wrap-around,
 * a refused call. What is due was worked out by hand from the document. No object here is asked more than 512 calls.
 */
public final class BoundaryTest {
    private static final String INDEX = "throws.IndexOutOfBoundsException";
    private static final String ARGUMENT = "throws.IllegalArgumentException";
    private static final String STATE = "throws.IllegalStateException";
    private static final int NONE = -1;
    private static final int[] EXTREMES = {-1, Integer.MIN_VALUE, Integer.MAX_VALUE};
    private static int faults;

    // ---- what the tests share

    private static void is(int promise, String what, Object due, Object got) {
        if (!due.toString().equals(got.toString())) {
            faults++;
            System.out.println("promise " + promise + ", " + what + ": due " + due + ", got " + got);
        }
    }

    private static Method method(String name) {
        for (Method m : Syntaxspan.class.getMethods()) {
            if (m.getName().equals(name) && m.getDeclaringClass() == Syntaxspan.class) {
                return m;
            }
        }
        throw new IllegalArgumentException(name);
    }

    /** The answer of a call by its name, or the exception that it throws. */
    private static String ask(Syntaxspan x, String call, int... given) {
        Method m = method(call);
        Object[] args = new Object[given.length];
        for (int i = 0; i < given.length; i++) {
            args[i] = m.getParameterTypes()[i] == char.class ? (Object) (char) given[i] : (Object) given[i];
        }
        try {
            Object got = m.invoke(x, args);
            return got instanceof Character ? "" + (int) (Character) got : got.toString();
        } catch (InvocationTargetException e) {
            return "throws." + e.getCause().getClass().getSimpleName();
        } catch (IllegalAccessException e) {
            return e.toString();
        }
    }

    private static void due(int promise, Syntaxspan x, Object due, String call, int... given) {
        StringBuilder what = new StringBuilder(call);
        for (int g : given) {
            what.append(' ').append(g);
        }
        is(promise, what.toString(), due, ask(x, call, given));
    }

    private static Syntaxspan in(int file, String... lines) {
        return more(new Syntaxspan(), file, lines);
    }

    /** Puts each text at the end of its line. */
    private static Syntaxspan more(Syntaxspan x, int file, String... lines) {
        for (int l = 0; l < lines.length; l++) {
            int size = lines[l].isEmpty() ? 0 : x.length(file, l);
            for (int c = 0; c < lines[l].length(); c++) {
                x.insert(file, l, size + c, lines[l].charAt(c));
            }
        }
        return x;
    }

    private static String line(Syntaxspan x, int file, int line) {
        StringBuilder s = new StringBuilder();
        int size = x.length(file, line);
        for (int c = 0; c < size; c++) {
            s.append(x.charAt(file, line, c));
        }
        return s.toString();
    }

    private static void lines(int promise, Syntaxspan x, int file, String... due) {
        for (int l = 0; l < 8; l++) {
            is(promise, "line " + l + " of file " + file, l < due.length ? due[l] : "", line(x, file, l));
        }
    }

    private static void spell(Syntaxspan x, String name) {
        x.clearName();
        for (int i = 0; i < name.length(); i++) {
            x.spell(name.charAt(i));
        }
    }

    private static int set(int... classes) {
        int s = 0;
        for (int c : classes) {
            s |= 1 << c;
        }
        return s;
    }

    /** What can be seen of an object, in fewer than 250 calls for a short text; empties its name and plan. */
    private static String view(Syntaxspan x) {
        StringBuilder s = new StringBuilder();
        s.append(x.relexed()).append(' ').append(x.reason()).append(' ').append(x.typeErrors());
        for (int f = 0; f < 3; f++) {
            s.append('|').append(x.tokens(f)).append(' ').append(x.errors(f)).append(' ').append(x.tree(f));
            s.append(' ').append(x.completions(f, Math.min(7, x.tokens(f))));
            for (int l = 0; l < 8; l++) {
                s.append('/').append(line(x, f, l));
            }
        }
        s.append(x.clearName()).append(' ').append(x.clearPlan());
        for (int f = 0; f < 3; f++) {
            s.append(' ').append(x.save(f));
        }
        return s.toString();
    }

    // ---- the face and its arguments

    private static void face() {
        is(1, "NONE", -1, Syntaxspan.NONE);
        is(1, "UNKNOWN", 0, Syntaxspan.UNKNOWN);
        is(1, "INT", 1, Syntaxspan.INT);
        is(1, "BOOL", 2, Syntaxspan.BOOL);
        is(1, "public and final", Modifier.PUBLIC | Modifier.FINAL, Syntaxspan.class.getModifiers());
        is(1, "one constructor", 1, Syntaxspan.class.getConstructors().length);
        TreeSet<String> names = new TreeSet<>();
        int open = 0;
        for (Method m : Syntaxspan.class.getDeclaredMethods()) {
            if (!Modifier.isPrivate(m.getModifiers()) && !m.isSynthetic()) {
                names.add(m.getName());
                open++;
            }
        }
        is(1, "38 calls", 38, open);
        is(1, "and no other ones", "[back, binding, bindingAnew, carryOut, charAt, clear, clearName, clearPlan, colour, "
            + "completionAt, completions, erase, errorAt, errors, fold, functionAt, functions, insert, length, may, "
            + "partner, paste, planInline, planMove, planRename, reason, relexed, repair, run, save, spell, token, "
            + "tokenAnew, tokens, tree, typeErrorAt, typeErrors, typeOf]", names);
    }

    private static void newObject() {
        Syntaxspan x = new Syntaxspan();
        for (int f = 0; f < 3; f++) {
            lines(1, x, f);
            due(1, x, 0, "tokens", f);
            due(1, x, 0, "errors", f);
            due(1, x, 0, "functions", f);
            due(1, x, 7, "tree", f);
            due(1, x, set(2, 3, 24), "may", f, 0);
            due(1, x, 0, "completions", f, 0);
            due(1, x, NONE, "completionAt", f, 0, 0);
            due(1, x, NONE, "fold", f, 7);
            due(1, x, INDEX, "token", f, 0);
            due(1, x, INDEX, "functionAt", f, 0);
            due(1, x, INDEX, "errorAt", f, 0);
            due(1, x, 0, "save", f);
            due(1, x, 0, "back", f);
        }
        due(1, x, 0, "relexed");
        due(1, x, 0, "typeErrors");
        due(1, x, 0, "reason");
        due(1, x, STATE, "carryOut");
        due(1, x, 0, "clearName");
        due(1, x, 0, "clearPlan");
        Syntaxspan y = in(0, "fn f(x) { ret x; }");
        y.save(0);
        spell(y, "q");
        y.planRename(0, 1);
        due(1, new Syntaxspan(), 0, "tokens", 0);
        due(1, new Syntaxspan(), 0, "back", 0);
        due(1, new Syntaxspan(), 0, "clearName");
        due(1, new Syntaxspan(), 0, "clearPlan");
    }

    /** 22 tokens, one error, two functions and one error of types in file 0; something saved, spelled and planned. */
    private static Syntaxspan base() {
        Syntaxspan x = in(0, "fn f(x) { ret x+; }", "fn g() { ret 1+yes; }");
        x.paste(2, 7, 12);
        x.paste(2, 7, 9);
        x.save(2);
        x.paste(2, 6, 3);
        spell(x, "f");
        x.planRename(0, 1);
        return x;
    }

    /** Each call, and the first number that is too large for each of its arguments that has to be one of something. */
    private static final String[] CALLS = {"2 insert 3 8 20", "3 erase 3 8 19", "4 paste 3 8", "5 clear 3 8", "6 save 3",
        "7 back 3", "8 charAt 3 8 19", "9 length 3 8", "11 tokens 3", "12 token 3 22", "13 tokenAnew 3 22",
        "14 colour 3 8 19", "15 partner 3 22", "16 fold 3 8", "17 errors 3", "18 errorAt 3 1", "19 repair 3 1",
        "20 tree 3", "21 may 3 23", "22 functions 3", "23 functionAt 3 2", "24 binding 3 22", "25 bindingAnew 3 22",
        "26 typeOf 3 22", "28 typeErrorAt 1", "31 completions 3 23", "32 completionAt 3 23", "33 planRename 3 22",
        "34 planInline 3 22", "35 planMove 3 22 3", "39 run 3 2"};

    private static int[] usual(String call) {
        int size = method(call).getParameterCount();
        int[] given = new int[size];
        if (call.equals("insert") || call.equals("paste") || call.equals("planMove")) {
            given[size - 1] = call.equals("insert") ? 'a' : call.equals("paste") ? 3 : 1;
        }
        return given;
    }

    private static void argumentsOfAllCalls() {
        String untouched = view(base());
        for (String row : CALLS) {
            String[] parts = row.split(" ");
            int promise = Integer.parseInt(parts[0]);
            for (int i = 2; i < parts.length; i++) {
                int limit = Integer.parseInt(parts[i]);
                Syntaxspan x = base();
                int[] given = usual(parts[1]);
                given[i - 2] = limit;
                due(promise, x, INDEX, parts[1], given);
                for (int wrong : EXTREMES) {
                    given[i - 2] = wrong;
                    due(promise, x, INDEX, parts[1], given);
                }
                is(promise, parts[1] + " changes nothing when it throws", untouched, view(x));
                if (!parts[1].equals("planMove")) {
                    lastOneStands(promise, parts[1], i - 2, limit - 1);
                }
            }
        }
        due(35, base(), 2, "planMove", 0, 21, 2);
        due(35, base(), 2, "planMove", 2, 0, 0);
    }

    private static void lastOneStands(int promise, String call, int at, int last) {
        int[] given = usual(call);
        given[at] = last;
        boolean ofFile = at == 0 && method(call).getParameterCount() > 1;
        Syntaxspan x = base();
        if (ofFile) {
            more(x, 2, "fn f(x) { ret x+; }");
        } else if (at == 1) {
            more(x, 0, "", "", "", "", "", "", "", "z");
        }
        is(promise, call + ", the last one of argument " + at + " stands", false,
            ask(x, call, given).startsWith("throws"));
    }

    private static void whichExceptionIsFirst() {
        Syntaxspan x = base();
        due(2, x, INDEX, "insert", 3, 0, 0, 31);
        due(2, x, INDEX, "insert", 0, 8, 0, 127);
        due(2, x, INDEX, "insert", 0, 0, 20, 31);
        due(2, x, INDEX, "insert", 2, 7, 25, 'a');
        due(2, x, ARGUMENT, "insert", 2, 7, 24, 127);
        due(2, x, ARGUMENT, "insert", 2, 7, 0, 31);
        due(2, x, STATE, "insert", 2, 7, 24, 'a');
        due(4, x, INDEX, "paste", 3, 0, 24);
        due(4, x, INDEX, "paste", 2, 8, -1);
        due(4, x, ARGUMENT, "paste", 2, 7, 24);
        due(4, x, ARGUMENT, "paste", 2, 7, -1);
        due(4, x, STATE, "paste", 2, 7, 0);
        spell(x, "abcdef");
        due(29, x, ARGUMENT, "spell", 'A');
        due(29, x, STATE, "spell", 'a');
        due(33, x, 2, "planRename", 0, 0);
        due(35, x, 3, "planMove", 0, 1, 2);
        due(35, x, INDEX, "planMove", 3, 0, 3);
        due(35, x, INDEX, "planMove", 0, 22, 0);
        due(35, x, INDEX, "planMove", 0, 1, 3);
        due(35, x, ARGUMENT, "planMove", 0, 1, 0);
        due(35, x, STATE, "planMove", 0, 1, 1);
        due(34, x, INDEX, "planInline", 0, 22);
        due(34, x, STATE, "planInline", 0, 21);
        due(33, x, INDEX, "planRename", 1, 0);
        due(33, x, STATE, "planRename", 0, 0);
        due(35, base(), ARGUMENT, "planMove", 0, 21, 0);
    }

    private static void refusedCallsChangeNothing() {
        String[] calls = {"insert 0 0 0 31", "insert 0 0 0 127", "insert 2 7 0 97", "insert 2 7 24 97", "paste 0 2 24",
            "paste 0 2 -1", "paste 2 7 3", "paste 0 1 2", "spell 96", "spell 123", "planMove 0 1 0", "planMove 2 0 2"};
        String untouched = view(base());
        for (String row : calls) {
            String[] parts = row.split(" ");
            int[] given = new int[parts.length - 1];
            for (int i = 0; i < given.length; i++) {
                given[i] = Integer.parseInt(parts[i + 1]);
            }
            Syntaxspan x = base();
            is(2, row + " throws", true, ask(x, parts[0], given).startsWith("throws.Illegal"));
            is(2, row + " changes nothing", untouched, view(x));
        }
        Syntaxspan full = base();
        full.planRename(0, 0);
        full.planRename(0, 3);
        due(38, full, STATE, "carryOut");
        due(33, full, STATE, "planRename", 0, 1);
        due(34, full, STATE, "planInline", 0, 1);
        due(35, full, STATE, "planMove", 0, 1, 1);
        due(36, full, 3, "clearPlan");
        spell(full, "abcdef");
        due(29, full, STATE, "spell", 'z');
        due(30, full, 6, "clearName");
    }

    // ---- edits

    private static void inserting() {
        for (int sign = 32; sign <= 126; sign++) {
            Syntaxspan x = new Syntaxspan();
            due(2, x, 1, "insert", 1, 0, 0, sign);
            due(8, x, sign, "charAt", 1, 0, 0);
            due(3, x, sign, "erase", 1, 0, 0);
            due(9, x, 0, "length", 1, 0);
        }
        Syntaxspan x = new Syntaxspan();
        for (int sign : new int[] {0, 9, 10, 31, 127, 128, 255, 256 + 'a', 65535}) {
            due(2, x, ARGUMENT, "insert", 0, 0, 0, sign);
        }
        due(9, x, 0, "length", 0, 0);
        due(2, x, 1, "insert", 0, 0, 0, 'b');
        due(2, x, 2, "insert", 0, 0, 0, 'a');
        due(2, x, 3, "insert", 0, 0, 2, 'd');
        due(2, x, 4, "insert", 0, 0, 2, 'c');
        lines(2, x, 0, "abcd");
        due(2, x, INDEX, "insert", 0, 0, 5, 'e');
        due(2, x, INDEX, "insert", 0, 1, 1, 'e');
        for (int size = 4; size < 23; size++) {
            x.insert(0, 0, size, '.');
        }
        due(2, x, 24, "insert", 0, 0, 23, '!');
        for (int column = 0; column <= 24; column += 12) {
            due(2, x, STATE, "insert", 0, 0, column, 'x');
        }
        lines(2, x, 0, "abcd...................!");
        due(3, x, 'a' + 0, "erase", 0, 0, 0);
        due(2, x, 24, "insert", 0, 0, 0, 'z');
        lines(2, x, 0, "zbcd...................!");
    }

    private static void erasing() {
        Syntaxspan x = in(1, "abc");
        due(3, x, INDEX, "erase", 1, 0, 3);
        due(3, x, 'b' + 0, "erase", 1, 0, 1);
        due(3, x, 'c' + 0, "erase", 1, 0, 1);
        due(3, x, INDEX, "erase", 1, 0, 1);
        due(3, x, 'a' + 0, "erase", 1, 0, 0);
        due(3, x, INDEX, "erase", 1, 0, 0);
        due(9, x, 0, "length", 1, 0);
        x.paste(2, 7, 12);
        x.paste(2, 7, 9);
        due(3, x, '{' + 0, "erase", 2, 7, 23);
        due(3, x, INDEX, "erase", 2, 7, 23);
        due(3, x, 'l' + 0, "erase", 2, 7, 0);
        lines(3, x, 2, "", "", "", "", "", "", "", "et z = g(x, y);} else ");
    }

    private static void pasting() {
        String[] texts = {"fn f(x) {", "fn g(x, y) {", "fn h() {", "}", "let y = x + 1;", "let x = 2;", "ret x;",
            "ret y * 2;", "if x < 3 {", "} else {", "x = x - 1;", "ret f(x);", "let z = g(x, y);", "use a;", "use b;",
            "use c;", "ret x == y;", "f(1);", "/* ", " */", "let y = !no;", "ret f(g(x, 1));", "{", "let = x + ;"};
        for (int i = 0; i < texts.length; i++) {
            Syntaxspan x = in(2, "", "", "", "", "", "", "", "~");
            due(4, x, 1 + texts[i].length(), "paste", 2, 7, i);
            is(4, "fragment " + i, "~" + texts[i], line(x, 2, 7));
            int room = 24 - 1 - texts[i].length();
            more(x, 2, "", "", "", "", "", "", "", "........................".substring(0, room));
            due(9, x, 24, "length", 2, 7);
            x.clear(2, 7);
            more(x, 2, "", "", "", "", "", "", "", "........................".substring(0, room + 1));
            due(4, x, 24, "paste", 2, 7, i);
            x.clear(2, 7);
            more(x, 2, "", "", "", "", "", "", "", "........................".substring(0, room + 2));
            due(4, x, STATE, "paste", 2, 7, i);
            due(9, x, room + 2, "length", 2, 7);
        }
    }

    private static void clearing() {
        Syntaxspan x = in(0, "a", "b", "c");
        due(5, x, 1, "clear", 0, 1);
        lines(5, x, 0, "a", "", "c");
        due(5, x, 0, "clear", 0, 1);
        x.paste(0, 7, 12);
        x.paste(0, 7, 9);
        due(5, x, 24, "clear", 0, 7);
        due(5, x, 1, "clear", 0, 0);
        lines(5, x, 0, "", "", "c");
        due(5, x, 0, "clear", 1, 0);
    }

    private static void saving() {
        Syntaxspan x = in(0, "a", "b", "c", "d", "e", "f", "g", "h");
        due(6, x, 8, "save", 0);
        due(6, x, 0, "save", 0);
        due(6, x, 0, "save", 1);
        x.insert(0, 0, 0, ' ');
        x.insert(0, 1, 1, ' ');
        x.erase(0, 2, 0);
        x.erase(0, 3, 0);
        x.insert(0, 3, 0, 'd');
        due(7, x, 3, "back", 0);
        lines(7, x, 0, "a", "b", "c", "d", "e", "f", "g", "h");
        due(7, x, 0, "back", 0);
        for (int l = 0; l < 8; l++) {
            x.clear(0, l);
        }
        due(7, x, 8, "back", 0);
        due(11, x, 8, "tokens", 0);
        x.clear(0, 0);
        x.insert(0, 7, 1, 'x');
        due(6, x, 2, "save", 0);
        x.clear(0, 7);
        due(7, x, 1, "back", 0);
        lines(7, x, 0, "", "b", "c", "d", "e", "f", "g", "hx");
        x.paste(1, 7, 12);
        x.paste(1, 7, 9);
        due(6, x, 1, "save", 1);
        x.clear(1, 7);
        due(7, x, 1, "back", 1);
        lines(7, x, 1, "", "", "", "", "", "", "", "let z = g(x, y);} else {");
        x.paste(2, 0, 18);
        x.paste(2, 7, 3);
        due(7, x, 2, "back", 2);
        lines(7, x, 2);
        due(6, x, 0, "save", 2);
        Syntaxspan y = in(1, "ab", "", "", "", "", "", "", "cd");
        more(y, 2, "e", "", "", "", "", "", "", "f");
        due(6, y, 0, "save", 0);
        due(7, y, 0, "back", 0);
        due(6, y, 2, "save", 1);
        y.erase(1, 0, 0);
        y.insert(1, 0, 0, 'x');
        y.erase(1, 7, 1);
        y.insert(1, 7, 1, 'x');
        due(7, y, 2, "back", 1);
        lines(7, y, 1, "ab", "", "", "", "", "", "", "cd");
        lines(7, y, 2, "e", "", "", "", "", "", "", "f");
        due(7, y, 2, "back", 2);
        lines(7, y, 1, "ab", "", "", "", "", "", "", "cd");
    }

    // ---- tokens

    private static void lookedAtLines() {
        Syntaxspan x = new Syntaxspan();
        due(10, x, 0, "relexed");
        due(10, x, INDEX, "insert", 0, 0, 1, 'a');
        due(10, x, INDEX, "erase", 0, 0, 0);
        due(10, x, ARGUMENT, "paste", 0, 0, 24);
        due(10, x, INDEX, "clear", 3, 0);
        due(10, x, 0, "save", 0);
        due(10, x, 0, "back", 0);
        due(10, x, 0, "relexed");
        x.clear(0, 7);
        due(10, x, 1, "relexed");
        x.paste(0, 0, 18);
        due(10, x, 8, "relexed");
        x.paste(1, 3, 3);
        due(10, x, 1, "relexed");
        x.paste(0, 7, 19);
        due(10, x, 1, "relexed");
        x.paste(0, 3, 19);
        due(10, x, 5, "relexed");
        x.erase(0, 0, 0);
        due(10, x, 4, "relexed");
        x.insert(0, 0, 0, '/');
        due(10, x, 4, "relexed");
        x.clear(0, 3);
        due(10, x, 5, "relexed");
        due(10, x, INDEX, "clear", 0, 8);
        due(10, x, INDEX, "erase", 0, 3, 0);
        due(10, x, ARGUMENT, "paste", 0, 0, 24);
        due(10, x, 5, "relexed");
        x.save(0);
        x.clear(0, 0);
        due(10, x, 8, "relexed");
        x.back(0);
        due(10, x, 8, "relexed");
        x.tokens(0);
        x.erase(0, 6, x.insert(0, 6, 0, 'a') - 1);
        due(10, x, 1, "relexed");
        x.back(1);
        x.insert(0, 0, 2, '*');
        due(10, x, 1, "relexed");
        x.insert(0, 0, 3, '/');
        due(10, x, 8, "relexed");
        x.erase(0, 0, 2);
        due(10, x, 8, "relexed");
        x.clear(0, 0);
        x.paste(0, 0, 18);
        due(10, x, 8, "relexed");
        x.insert(0, 0, 2, '/');
        due(10, x, 1, "relexed");
        Syntaxspan y = in(2, "/*", "", "", "/*", "", "*/");
        y.clear(2, 0);
        due(10, y, 4, "relexed");
        y.save(2);
        spell(y, "q");
        due(38, y, STATE, "carryOut");
        due(10, y, 4, "relexed");
    }

    private static void lookedAtBehindAPlan() {
        Syntaxspan x = in(0, "fn f() {", "}", "/*");
        x.planMove(0, 1, 1);
        due(38, x, 1, "carryOut");
        due(10, x, 6, "relexed");
        lines(38, x, 0, "/*");
        x.clear(0, 3);
        due(10, x, 1, "relexed");
        x.clear(0, 0);
        due(10, x, 8, "relexed");
        x.paste(1, 1, 18);
        due(10, x, 7, "relexed");
    }

    /** Compares all tokens of a file: classes, lines and columns, in threes. */
    private static void tokensAre(Syntaxspan x, int file, int... due) {
        is(11, "count of " + line(x, file, 0), due.length / 3, x.tokens(file));
        for (int i = 0; 3 * i < due.length; i++) {
            int told = 10000 * due[3 * i] + 1000 * due[3 * i + 1] + due[3 * i + 2];
            due(12, x, told, "token", file, i);
            due(13, x, told, "tokenAnew", file, i);
        }
    }

    private static void wordsAndNumbers() {
        tokensAre(in(0, "use fn let if else ret", "yes no"), 0, 2, 0, 0, 3, 0, 4, 4, 0, 7, 5, 0, 11, 6, 0, 14, 7, 0, 19,
            8, 1, 0, 9, 1, 4);
        tokensAre(in(0, "us usea fnn le i els re", "ye n noo lett aif reT"), 0, 0, 0, 0, 0, 0, 3, 0, 0, 8, 0, 0, 12, 0,
            0, 15, 0, 0, 17, 0, 0, 21, 0, 1, 0, 0, 1, 3, 0, 1, 5, 0, 1, 9, 0, 1, 14, 0, 1, 18, 23, 1, 20);
        tokensAre(in(0, "abcdefghijklmnopqrstuvwx", "yz"), 0, 0, 0, 0, 0, 1, 0);
        tokensAre(in(0, "0 00 999 1000 0000 1a23b"), 0, 1, 0, 0, 1, 0, 2, 1, 0, 5, 23, 0, 9, 23, 0, 14, 1, 0, 19, 0, 0,
            20, 1, 0, 21, 0, 0, 23);
        tokensAre(in(0, "123456789012345678901234"), 0, 23, 0, 0);
        tokensAre(in(0, "", "", "", "", "", "", "", "                       7"), 0, 1, 7, 23);
        tokensAre(in(2, "", "", "", "", "", "", "", "                use fn 9"), 2, 2, 7, 16, 3, 7, 20, 1, 7,
            23);
        tokensAre(in(2, "", "", "", "", "", "", "", "                    n no"), 2, 0, 7, 20, 9, 7, 22);
        tokensAre(in(0, "le", "t", "let", "12", "34"), 0, 0, 0, 0, 0, 1, 0, 4, 2, 0, 1, 3, 0, 1, 4, 0);
    }

    private static void signs() {
        tokensAre(in(0, "(){},;=<+-*!", "= == === ==== = ="), 0, 10, 0, 0, 11, 0, 1, 12, 0, 2, 13, 0, 3, 14, 0, 4, 15, 0,
            5, 16, 0, 6, 18, 0, 7, 19, 0, 8, 20, 0, 9, 21, 0, 10, 22, 0, 11, 16, 1, 0, 17, 1, 2, 17, 1, 5, 16, 1, 7, 17,
            1, 9, 17, 1, 11, 16, 1, 14, 16, 1, 16);
        tokensAre(in(0, "=", "=", "=/**/="), 0, 16, 0, 0, 16, 1, 0, 16, 2, 0, 16, 2, 5);
        String known = "(){},;=<+-*!";
        for (int sign = 33; sign <= 126; sign++) {
            Syntaxspan x = new Syntaxspan();
            x.insert(0, 0, 0, (char) sign);
            int at = known.indexOf(sign);
            int kind = at >= 0 ? 10 + at + (at > 6 ? 1 : 0) : sign >= 'a' && sign <= 'z' ? 0
                : sign >= '0' && sign <= '9' ? 1 : 23;
            due(12, x, 10000 * kind, "token", 0, 0);
            x.insert(0, 0, 1, '~');
            due(11, x, 2, "tokens", 0);
        }
        due(11, in(0, "    "), 0, "tokens", 0);
    }

    private static void comments() {
        tokensAre(in(0, "/*/ a */b"), 0, 0, 0, 8);
        tokensAre(in(0, "/**/b/***/c/* */d"), 0, 0, 0, 4, 0, 0, 10, 0, 0, 16);
        tokensAre(in(0, "a//*b", "c*/d"), 0, 0, 0, 0, 23, 0, 1, 0, 1, 3);
        tokensAre(in(0, "*/*", "*/*/"), 0, 21, 0, 0, 21, 1, 2, 23, 1, 3);
        tokensAre(in(0, "a/", "*b*", "/c/ * * /"), 0, 0, 0, 0, 23, 0, 1, 21, 1, 0, 0, 1, 1, 21, 1, 2, 23, 2, 0, 0, 2, 1,
            23, 2, 2, 21, 2, 4, 21, 2, 6, 23, 2, 8);
        tokensAre(in(0, "/* *", "/ x * / */y"), 0, 0, 1, 10);
        tokensAre(in(0, "                      /*", "", " ", "", "", "", "", "x*/y"), 0, 0, 7, 3);
        tokensAre(in(0, "                      */", "z"), 0, 21, 0, 22, 23, 0, 23, 0, 1, 0);
        tokensAre(in(0, "a/*/*/b"), 0, 0, 0, 0, 0, 0, 6);
        tokensAre(more(in(0, "/*"), 1, "x"), 1, 0, 0, 0);
    }

    private static void fullFile() {
        Syntaxspan x = new Syntaxspan();
        for (int i = 0; i < 192; i++) {
            x.paste(1, i / 24, 3);
        }
        due(11, x, 192, "tokens", 1);
        due(12, x, 137023, "token", 1, 191);
        due(12, x, INDEX, "token", 1, 192);
        due(13, x, 137023, "tokenAnew", 1, 191);
        due(15, x, NONE, "partner", 1, 191);
        due(18, x, 0, "errorAt", 1, 0);
        due(17, x, 1, "errors", 1);
        due(21, x, (1 << 25) - 1, "may", 1, 192);
        due(21, x, INDEX, "may", 1, 193);
        due(31, x, 0, "completions", 1, 192);
        due(5, x, 24, "clear", 1, 0);
        due(4, x, 8, "paste", 1, 0, 2);
        for (int i = 0; i < 16; i++) {
            x.paste(1, 0, 22);
        }
        due(11, x, 189, "tokens", 1);
        due(15, x, 21, "partner", 1, 20);
        due(15, x, 37, "partner", 1, 4);
        due(15, x, 4, "partner", 1, 37);
        due(15, x, NONE, "partner", 1, 38);
        due(17, x, 1, "errors", 1);
        due(18, x, 38, "errorAt", 1, 0);
    }

    private static void fullOfBlocks() {
        Syntaxspan x = new Syntaxspan();
        x.paste(0, 0, 2);
        for (int i = 8; i < 192; i++) {
            x.paste(0, i / 24, 22);
        }
        due(11, x, 189, "tokens", 0);
        due(17, x, 185, "errors", 0);
        due(18, x, 189, "errorAt", 0, 184);
        due(19, x, NONE, "repair", 0, 184);
        due(21, x, set(0, 4, 5, 7, 12, 13), "may", 0, 189);
        due(31, x, 1, "completions", 0, 189);
        due(39, x, 0, "run", 0, 0, 1, 1);
        long p = 31 * (31 * 7 + 2);
        for (int i = 0; i < 370; i++) {
            p = 31 * p + (i < 185 ? 3 : 4);
        }
        due(20, x, p, "tree", 0);
        x.erase(0, 7, 23);
        x.paste(0, 7, 3);
        due(15, x, 187, "partner", 0, 188);
        due(17, x, 183, "errors", 0);
        due(24, x, 1, "binding", 0, 1);
    }

    private static void colours() {
        Syntaxspan x = in(0, "fn f(x) { let y = 1; /*", " * */ret f(y)==x+z-12;", "y = !yes<no; q(x); if x{",
            "}else{let = f; A_1234 }}", "use b;use f;fn(x){} 7,*", "~\"/ /**//*/", " x ", "*/ x");
        String[] due = {"22037470702220407067011", "1111122203747774757667", "407072227227057477022047",
            "722227222070570888888077", "22205722205722757770677", "88801111111", "111", "1105"};
        for (int l = 0; l < 8; l++) {
            is(14, "length of line " + l, due[l].length(), x.length(0, l));
            for (int c = 0; c < due[l].length(); c++) {
                due(14, x, due[l].charAt(c), "colour", 0, l, c);
            }
            due(14, x, INDEX, "colour", 0, l, due[l].length());
        }
        more(x, 1, "fn q() {}");
        due(14, x, 3, "colour", 0, 2, 13);
        due(14, x, 0, "colour", 1, 0, 2);
    }

    private static void partnersAre(Syntaxspan x, int... due) {
        is(15, "tokens", due.length, x.tokens(0));
        for (int i = 0; i < due.length; i++) {
            due(15, x, due[i], "partner", 0, i);
        }
    }

    private static void brackets() {
        partnersAre(in(0, "(){}"), 1, 0, 3, 2);
        partnersAre(in(0, ")(", "}{"), -1, -1, -1, -1);
        partnersAre(in(0, "( } )"), 2, -1, 0);
        partnersAre(in(0, "{ ) }"), 2, -1, 0);
        partnersAre(in(0, "( { ) } )"), 4, 3, -1, 1, 0);
        partnersAre(in(0, "({)}"), -1, 3, -1, 1);
        partnersAre(in(0, "(", "", "", "", "", "", "", "x,)"), 3, -1, -1, 0);
        partnersAre(in(0, "( /* ) */ ) // } { */"), 1, 0, -1, -1, -1, -1, -1, -1);
        partnersAre(in(0, "{{}", "}}"), 3, 2, 1, 0, -1);
        foldsAre(in(0, "{", "", "", "", "", "", "", "}"), 7, -1, -1, -1, -1, -1, -1, -1);
        foldsAre(in(0, "{}", "{} {", "}", "{{", "}", "}{", "()", "}"), -1, 2, -1, 5, -1, 7, -1, -1);
        foldsAre(in(0, "{{", "", "}"), 2, -1, -1, -1, -1, -1, -1, -1);
        foldsAre(in(0, "({", ")", "}", "(", ")", "/*{", "*/}", "{"), 2, -1, -1, -1, -1, -1, -1, -1);
        foldsAre(in(0, "{} {} {} { {", "} }"), 1, -1, -1, -1, -1, -1, -1, -1);
        foldsAre(in(0, "{ {", "}", "", "}"), 3, -1, -1, -1, -1, -1, -1, -1);
    }

    private static void foldsAre(Syntaxspan x, int... due) {
        for (int l = 0; l < 8; l++) {
            due(16, x, due[l], "fold", 0, l);
            due(16, x, NONE, "fold", 1, l);
        }
    }

    // ---- trees and errors

    private static void errorsAre(Syntaxspan x, String what, int... due) {
        is(17, what + ", errors", due.length, x.errors(0));
        for (int i = 0; i < due.length; i++) {
            is(18, what + ", error " + i, due[i], ask(x, "errorAt", 0, i));
        }
        is(18, what + ", no error more", INDEX, ask(x, "errorAt", 0, due.length));
        is(19, what + ", no repair more", INDEX, ask(x, "repair", 0, due.length));
    }

    private static long print(int... numbers) {
        long p = 7;
        for (int n : numbers) {
            p = 31 * p + n;
        }
        return p;
    }

    private static void whereAnItemCanBegin() {
        String[] others = {"x", "7", "let", "if", "else", "ret", "yes", "no", "(", ")", "{", "}", ",", ";", "=", "==",
            "<", "+", "-", "*", "!", "?", "1234"};
        for (String other : others) {
            Syntaxspan x = in(0, other + " ; x use a; " + other, "} fn f(){} " + other);
            errorsAre(x, other, 0, 6, 14);
            due(19, x, NONE, "repair", 0, 0);
            due(20, x, print(1, 2, 0, 3, 4), "tree", 0);
            due(23, x, 900, "functionAt", 0, 0);
        }
        errorsAre(in(0, "fn f(){}", "", "use a;"), "items alone");
        errorsAre(new Syntaxspan(), "empty");
    }

    private static void inAnItem() {
        String[] items = {"use 1", "use ; 1", "use let; 1", "use a 2", "use a a; 2", "use a, 2", "fn 1", "fn ( 1",
            "fn if(){} 1", "fn f 2", "fn f{} 2", "fn f f(){} 2", "fn f( 3", "fn f(,x){} 3", "fn f(1){} 3", "fn f(x 4",
            "fn f(x x){} 4", "fn f(x;){} 4", "fn f(x, 5", "fn f(x,){} 5", "fn f(x,,y){} 5", "fn f(x,y 6", "fn f() 4",
            "fn f(); 4", "fn f()x{} 4", "fn f(x){}} 7", "fn f(x){ x=1;}; 11"};
        for (String item : items) {
            int cut = item.lastIndexOf(' ');
            String text = item.substring(0, cut);
            Syntaxspan x = in(0, text);
            int at = Integer.parseInt(item.substring(cut + 1));
            errorsAre(x, text, at);
            due(19, x, NONE, "repair", 0, 0);
            due(22, x, at > 6 ? 1 : 0, "functions", 0);
            more(x, 0, "", "use b;fn g(){f();}", "use c;");
            errorsAre(x, text + " and others", at);
            due(22, x, at > 6 ? 2 : 1, "functions", 0);
            if (at <= 6) {
                due(20, x, print(1, 2, 0, 3, 7, 8, 4, 1), "tree", 0);
            }
        }
        Syntaxspan use = in(0, "use use b;", "fn fn f(x){}", "fn g() use c", "fn g(){}");
        errorsAre(use, "nothing to skip", 1, 5, 16, 18);
        due(20, use, print(1, 2, 1, 3, 4, 2, 0, 3, 4), "tree", 0);
        due(23, use, 1900, "functionAt", 0, 1);
    }

    private static void inABlock() {
        errorsAre(in(0, "fn f(){"), "END", 5);
        errorsAre(in(0, "fn f(){{{{"), "END in four", 8, 8, 8, 8);
        errorsAre(in(0, "fn f(){if 1{"), "END in IF", 8, 8);
        errorsAre(in(0, "fn f(){if 1{}else{"), "END in ELSE", 11, 11);
        Syntaxspan x = in(0, "fn f(){{ret 1;use b;", "fn g(){if 1{fn h(){}", "}");
        errorsAre(x, "USE and FN", 9, 9, 20, 20, 26);
        due(20, x, print(2, 0, 3, 3, 9, 13, 4, 4, 1, 2, 0, 3, 10, 13, 3, 4, 4, 2, 0, 3, 4), "tree", 0);
        due(22, x, 3, "functions", 0);
        for (int i = 0; i < 5; i++) {
            due(19, x, NONE, "repair", 0, i);
        }
    }

    /** In a function, with its tokens from 5 on: the text, the token of its one error, its repair, and the print. */
    private static void broken(String text, int at, int repair, int... prints) {
        Syntaxspan x = in(0, "fn f(){", text, "}");
        errorsAre(x, text, at);
        is(19, text, repair, ask(x, "repair", 0, 0));
        int[] all = new int[prints.length + 4];
        all[0] = 2;
        all[2] = 3;
        System.arraycopy(prints, 0, all, 3, prints.length);
        all[all.length - 1] = 4;
        is(20, text, print(all), x.tree(0));
    }

    private static void inAStatement() {
        broken(";", 5, 2, 12);
        broken(";ret 1;", 5, 2, 12, 9, 13);
        broken("else ret 1;ret 2;", 5, 1, 12, 9, 13);
        broken("1 2;ret 3;", 5, 2, 12, 9, 13);
        broken("){ret 4;}", 5, 3, 12, 3, 9, 13, 4);
        broken("x", 6, 2, 12);
        broken("x;", 6, 1, 12);
        broken("x 1;", 6, 1, 12);
        broken("x=;", 7, 1, 12);
        broken("x=1", 8, 1, 12);
        broken("x= =1;", 7, 1, 12);
        broken("x==1;", 6, 1, 12);
        broken("let;", 6, 3, 12);
        broken("let 1;", 6, 2, 12);
        broken("let x;", 7, 2, 12);
        broken("let x=", 8, 2, 12);
        broken("let x=;", 8, 1, 12);
        broken("let x=1", 9, 1, 12);
        broken("let f(1);", 7, 1, 12);
        broken("let{}", 6, 4, 12, 3, 4);
        broken("f(;", 7, 1, 12);
        broken("f(", 7, 2, 12);
        broken("f(,);", 7, 1, 12);
        broken("f(1;", 8, 1, 12);
        broken("f(1,);", 9, 1, 12);
        broken("f(1 2);", 8, 1, 12);
        broken("f()", 8, 1, 12);
        broken("f()+1;", 8, 1, 12);
        broken("f()=1;", 8, 2, 12);
        broken("ret;", 6, 1, 12);
        broken("ret", 6, 2, 12);
        broken("ret 1", 7, 1, 12);
        broken("ret 1 2;", 7, 1, 12);
        broken("if;", 6, 3, 12);
        broken("if{}", 6, 4, 12, 3, 4);
        broken("if x;", 7, 2, 12);
        broken("if x", 7, 3, 12);
        broken("if x else{}", 7, 4, 12, 3, 4);
    }

    private static void inAnExpr() {
        broken("ret +1;", 6, 1, 12);
        broken("ret 1+;", 8, 1, 12);
        broken("ret 1*;", 8, 1, 12);
        broken("ret 1- -1;", 8, 1, 12);
        broken("ret !!x;", 7, 1, 12);
        broken("ret !;", 7, 1, 12);
        broken("ret ();", 7, 1, 12);
        broken("ret (1;", 8, 1, 12);
        broken("ret ((1;", 9, 2, 12);
        broken("ret 1);", 7, 1, 12);
        broken("ret (1,2);", 8, 1, 12);
        broken("ret 1==2==3;", 9, 2, 12);
        broken("ret 1<2<3;", 9, 2, 12);
        broken("ret 1<2==3;", 9, 2, 12);
        broken("ret f(1==2==3);", 11, 2, 12);
        broken("ret x(;", 8, 1, 12);
        broken("ret f(1)(2);", 10, 1, 12);
        broken("ret let;", 6, 2, 12);
        broken("ret 1234;", 6, 2, 12);
        broken("ret yes no;", 7, 1, 12);
        broken("ret 1=2;", 7, 2, 12);
        broken("ret ==1", 6, 2, 12);
        broken("x=<1", 7, 2, 12);
        broken("ret yes+;", 8, 1, 12);
        broken("ret no-;", 8, 1, 12);
        broken("ret 1*2*3 4;", 11, 1, 12);
        broken("ret 1==2 3;", 9, 1, 12);
        broken("ret !x<!3 4;", 11, 1, 12);
        broken("f(1,(2) 3);", 12, 1, 12);
        broken("ret g((1)));", 12, 1, 12);
        Syntaxspan x = in(0, "fn f(){ret(1==2)==3;", "ret 1==2+3*!x;", "f(1==2,(3<4),!(5));", "ret f(f())-f()*(f());",
            "if !x{}else{}{}", "let x=((x));", "f();x=f(x,!x*2,f(x));}");
        errorsAre(x, "exprs that can go on");
    }

    private static void behindAnIf() {
        Syntaxspan x = in(0, "fn f(){if 1{}else ret 1;", "ret 2;}");
        errorsAre(x, "no block", 10);
        due(19, x, NONE, "repair", 0, 0);
        due(20, x, print(2, 0, 3, 10, 13, 3, 4, 9, 13, 4), "tree", 0);
        due(39, x, 2, "run", 0, 0, 0, 0);
        x = in(0, "fn f(){if 1{}else if 2{}", "ret 3;}");
        errorsAre(x, "another IF", 10);
        due(20, x, print(2, 0, 3, 10, 13, 3, 4, 3, 4, 9, 13, 4), "tree", 0);
        x = in(0, "fn f(){if 1{}else}");
        errorsAre(x, "a }", 10);
        due(20, x, print(2, 0, 3, 10, 13, 3, 4, 4), "tree", 0);
        errorsAre(in(0, "fn f(){if 1{}else"), "END", 10, 10);
        errorsAre(in(0, "fn f(){if 1{}else;}"), "nothing but ;", 10);
        x = in(0, "fn f(){if 1{}else use a;");
        errorsAre(x, "USE", 10, 10);
        due(20, x, print(2, 0, 3, 10, 13, 3, 4, 4, 1), "tree", 0);
        x = in(0, "fn f(){if 1{}else{}else{", "}ret 1;}");
        errorsAre(x, "a second ELSE", 12);
        due(19, x, 4, "repair", 0, 0);
        due(20, x, print(2, 0, 3, 10, 13, 3, 4, 11, 3, 4, 12, 3, 4, 9, 13, 4), "tree", 0);
        x = in(0, "fn f(){if 1{}ret 1;", "else{}}");
        errorsAre(x, "ELSE behind another statement", 12);
        x = in(0, "fn f(){if 1{let}else{1}}");
        errorsAre(x, "errors of statements in both blocks", 9, 12);
        due(19, x, 4, "repair", 0, 0);
        due(19, x, 2, "repair", 0, 1);
        due(20, x, print(2, 0, 3, 10, 13, 3, 12, 4, 11, 3, 12, 4, 4), "tree", 0);
    }

    private static void longRuns() {
        broken("ret 1 1 1 1 1 1 1 1;", 7, 7, 12);
        broken("ret 1 1 1 1 1 1 1 1 1;", 7, NONE, 12);
        broken("ret 1 1 1 1 1 1 1 1 1", 7, 9, 12);
        broken("ret 1 1 1 1 1 1 1 1 1 1", 7, NONE, 12);
        broken("! ! ! ! ! ! ! ! ! !", 5, 12, 12);
        broken("x=1+1+1+1+ +1;", 15, NONE, 12);
        broken("x=1+1+1+ +1;", 13, NONE, 12);
        broken("x=1+1+ +1;", 11, 1, 12);
        broken("let = 1 if 2 if 3;", 6, 5, 12);
        broken("{", 7, NONE, 3, 4);
    }

    private static void treeOverflows() {
        Syntaxspan x = in(0, "fn f(a,b){ret !f(1,x)<2;", "if yes{f();}else{f(no);", "}let q=(1)*2+3-4==5;x=;}",
            "use a;use", "fn g(){x=1;");
        int[] parts = {2, 2, 3, 9, 18, 16, 14, 13, 13, 15, 13, 10, 13, 3, 7, 8, 4, 11, 3, 7, 13, 8, 4, 5, 17, 20, 19, 21,
            13, 13, 13, 13, 13, 12, 4, 1, 2, 0, 3, 6, 13, 4};
        due(20, x, print(parts), "tree", 0);
        Syntaxspan v = in(2, "fn f(){ret 1+!2*f(3-4,!5", ");f(!1,g(2,!3));x=1-(2<!", "f(3,!4));}");
        due(20, v, print(2, 0, 3, 9, 19, 13, 21, 16, 13, 14, 20, 13, 13, 16, 13, 15, 7, 16, 13, 14, 13, 16, 13, 15, 8, 6,
            20, 13, 18, 13, 16, 14, 13, 16, 13, 15, 4), "tree", 2);
        for (int n = 1; n <= 10; n++) {
            Syntaxspan y = new Syntaxspan();
            int[] uses = new int[n];
            for (int i = 0; i < n; i++) {
                y.paste(0, i / 2, 13);
                uses[i] = 1;
            }
            due(20, y, print(uses), "tree", 0);
        }
        Syntaxspan z = new Syntaxspan();
        int[] uses = new int[32];
        for (int i = 0; i < 32; i++) {
            z.paste(0, i / 4, 14);
            uses[i] = 1;
        }
        due(20, z, print(uses), "tree", 0);
        due(20, z, 7, "tree", 1);
    }

    private static void mayAt(Syntaxspan x, int from, int... due) {
        for (int i = 0; i < due.length; i++) {
            due(21, x, due[i], "may", 0, from + i);
        }
    }

    private static void whatMayStand() {
        int all = (1 << 25) - 1;
        int items = set(2, 3, 24);
        int statements = set(0, 4, 5, 7, 12, 13);
        int begins = set(0, 1, 8, 9, 10, 22);
        int goesOn = set(17, 18, 19, 20, 21);
        int plain = set(0, 1, 8, 9, 10);
        mayAt(in(0, "use b;fn f(x,y){}"), 0, items, set(0), set(15), items, set(0), set(10), set(0, 11), set(11, 14),
            set(0), set(11, 14), set(12), statements, items);
        mayAt(in(0, "fn f(){let x=1;x=!y;"), 5, statements, set(0), set(16), begins, goesOn | set(15), statements,
            set(10, 16), begins, plain, goesOn | set(10, 15), statements);
        mayAt(in(0, "fn f(){f();f(1<x,(2));"), 6, set(10, 16), begins | set(11), set(15), statements, set(10, 16),
            begins | set(11), goesOn | set(11, 14), begins, set(10, 11, 14, 19, 20, 21), begins, begins,
            goesOn | set(11), goesOn | set(11, 14), set(15), statements);
        mayAt(in(0, "fn f(){if 1{}else{}}"), 6, begins, goesOn | set(12), statements, statements | set(6), set(12),
            statements, statements, items);
        mayAt(in(0, "fn f(){ret 1==2*x;"), 6, begins, goesOn | set(15), begins, set(15, 19, 20, 21), begins,
            set(10, 15, 19, 20, 21), statements);
        mayAt(in(0, "x + use + fn"), 0, items, all, all, set(0), all, set(0));
        mayAt(in(0, "fn f(){let = 1"), 6, set(0), all - items, all - items);
        mayAt(in(0, "fn f(){{{"), 7, statements);
        mayAt(in(0, "fn f(){if 1{}else 1"), 9, statements | set(6), set(12), all - items);
        mayAt(in(0, "fn f(){;else"), 6, statements, all - items);
    }

    // ---- names and types

    private static void functions() {
        Syntaxspan x = in(1, "fn a(){}fn a(a,a){}use a", "fn(){}fn b(a,b,c,d,e,f,", "g,h,i,j,k,l){fn c(x)");
        due(22, x, 3, "functions", 1);
        due(23, x, 100, "functionAt", 1, 0);
        due(23, x, 702, "functionAt", 1, 1);
        due(23, x, 2312, "functionAt", 1, 2);
        due(23, x, INDEX, "functionAt", 1, 3);
        due(22, x, 0, "functions", 0);
        Syntaxspan y = new Syntaxspan();
        for (int l = 0; l < 8; l++) {
            y.paste(2, l, 2);
            y.paste(2, l, 2);
            y.paste(2, l, 2);
        }
        due(22, y, 24, "functions", 2);
        due(23, y, 11600, "functionAt", 2, 23);
        due(17, y, 24, "errors", 2);
        Syntaxspan z = in(0, "fn g(a,a,a,a,a,a,a,a,a,a", ",a,a,a,a,a,a,a,a,a,a,a,a", ",a,a,a,a,a,a,a,a,a,a){}");
        due(23, z, 132, "functionAt", 0, 0);
        due(24, z, 65, "binding", 0, 65);
        z.erase(0, 1, 0);
        due(22, z, 0, "functions", 0);
    }

    /** Compares the bindings of one file: as kept, and anew. */
    private static void bound(String what, Syntaxspan x, int file, int... due) {
        is(24, what + ", tokens", due.length, x.tokens(file));
        for (int i = 0; i < due.length; i++) {
            is(24, what + ", token " + i, due[i], ask(x, "binding", file, i));
            is(25, what + ", token " + i, due[i], ask(x, "bindingAnew", file, i));
        }
    }

    private static void binds(String what, Syntaxspan x, int file, int token, int due) {
        is(24, what, due, ask(x, "binding", file, token));
        is(25, what, due, ask(x, "bindingAnew", file, token));
    }

    private static void functionNames() {
        Syntaxspan x = in(0, "fn f(){g();f();k();}", "fn g(){}fn g(x){g();}", "fn f(){}use b;use c;");
        more(x, 1, "fn g(){}fn f(){}", "fn h(){k();}use c;");
        more(x, 2, "fn k(){}fn k(){}");
        binds("a function further below, the first of two", x, 0, 5, 19);
        binds("its own function", x, 0, 9, 1);
        binds("the first one in the second file used", x, 0, 13, 2001);
        binds("the first of two, from the second", x, 0, 30, 19);
        binds("the declaration of the second", x, 0, 25, 25);
        binds("a USE behind the call", x, 1, 17, 2001);
        bound("only the file used", in(0, "use c;use b;fn f(){f();}"), 0, -1, -1, -1, -1, -1, -1, -1, 7, -1, -1, -1, 7,
            -1, -1, -1, -1);
        Syntaxspan y = in(0, "use c;use b;use c;", "fn f(){g();h();k();}", "use d;use ab;use a;use");
        more(y, 1, "fn g(){}use a;fn k(");
        more(y, 2, "fn h(){f();g();}fn g(){}");
        binds("the first file by the order of USE", y, 0, 14, 2015);
        binds("found there alone", y, 0, 18, 2001);
        binds("an item that there is not", y, 0, 22, -1);
        binds("in a file that uses nothing", y, 2, 5, -1);
        binds("in its own file behind", y, 2, 9, 2015);
        binds("the NAME of a USE", y, 0, 1, -1);
        Syntaxspan z = in(0, "use b", "fn f(k){k();ret f;}", "use k;use bb;use", "fn p(){q();}");
        more(z, 1, "fn k(){}fn q(){}");
        binds("a parameter is no function", z, 0, 8, -1);
        binds("a function is no variable", z, 0, 13, -1);
        binds("a broken USE and other names use nothing", z, 0, 27, -1);
        Syntaxspan w = in(0, "use b;fn f(){g();}");
        more(w, 1, "use c;");
        more(w, 2, "fn g(){}");
        binds("through two files", w, 0, 8, -1);
        binds("a shorter name than the function's", in(0, "fn fo(){f();}"), 0, 5, -1);
        binds("a longer name than the function's", in(0, "fn f(){fo();}"), 0, 5, -1);
        binds("a shorter name than the parameter's", in(0, "fn f(xy){x=1;}"), 0, 6, -1);
        binds("a longer name than the parameter's", in(0, "fn f(x){xy=1;}"), 0, 6, -1);
        String[] names = {"aa", "ab", "ba", "bb", "cc", "d", "z", "f", "fn", "A", "1", "b,", ""};
        for (String name : names) {
            for (int file = 0; file < 3; file++) {
                Syntaxspan v = more(new Syntaxspan(), file, "use " + name + ";");
                more(v, (file + 1) % 3, "fn f(){}");
                more(v, (file + 2) % 3, "fn f(){}");
                more(v, file, "", "fn g(){f();}");
                binds("use " + name + " uses nothing", v, file, v.tokens(file) - 5, -1);
            }
        }
    }

    private static void variables() {
        bound("its own expr", in(0, "fn f(x){let x=x+x;", "ret x;}"), 0, -1, 1, -1, 3, -1, -1, -1, 7, -1, 3, -1, 3, -1,
            -1, 7, -1, -1);
        bound("ahead of it", in(0, "fn f(){x=1;let x=x;x=x;}"), 0, -1, 1, -1, -1, -1, -1, -1, -1, -1, -1, 10, -1, -1,
            -1, 10, -1, 10, -1, -1);
        bound("the last of two", in(0, "fn f(){let x=1;let x=2;", "ret x;}"), 0, -1, 1, -1, -1, -1, -1, 6, -1, -1, -1,
            -1, 11, -1, -1, -1, -1, 11, -1, -1);
        bound("a block within", in(0, "fn f(x){{x=1;let x=2;x=3", ";}ret x;}"), 0, -1, 1, -1, 3, -1, -1, -1, 3, -1, -1,
            -1, -1, 12, -1, -1, -1, 12, -1, -1, -1, -1, -1, 3, -1, -1);
        bound("behind the block", in(0, "fn f(){{x=1;}let x=1;}"), 0, -1, 1, -1, -1, -1, -1, -1, -1, -1, -1, -1, -1, 12,
            -1, -1, -1, -1);
        bound("the first of two parameters", in(0, "fn f(x,x){x=1;}"), 0, -1, 1, -1, 3, -1, 5, -1, -1, 3, -1, -1, -1,
            -1);
        bound("blocks of an IF", in(0, "fn f(){if x{let x=1;}", "else{x=2;}x=3;if x{}}"), 0, -1, 1, -1, -1, -1, -1, -1,
            -1, -1, 9, -1, -1, -1, -1, -1, -1, -1, -1, -1, -1, -1, -1, -1, -1, -1, -1, -1, -1, -1, -1);
        bound("another function", in(0, "fn f(x){let y=1;}", "fn g(){ret x+y;}"), 0, -1, 1, -1, 3, -1, -1, -1, 7, -1,
            -1, -1, -1, -1, 13, -1, -1, -1, -1, -1, -1, -1, -1, -1);
        bound("broken ones", in(0, "fn f(x){let y=1 let x=x;", "ret y;ret x}fn(x){ret x;"), 0, -1, 1, -1, 3, -1, -1, -1,
            -1, -1, -1, -1, -1, -1, -1, -1, -1, -1, -1, -1, -1, -1, -1, -1, -1, -1, -1, -1, -1, -1);
        bound("a block without its }", in(0, "fn f(){let x=1;{let y=x;", "fn g(y){ret x+y;"), 0, -1, 1, -1, -1, -1, -1,
            6, -1, -1, -1, -1, -1, 12, -1, 6, -1, -1, 17, -1, 19, -1, -1, -1, -1, -1, 19, -1);
        bound("exprs of a call", in(0, "fn f(x){x(x,f(x),q);x=;}"), 0, -1, 1, -1, 3, -1, -1, -1, -1, 3, -1, 1, -1, 3,
            -1, -1, -1, -1, -1, -1, -1, -1, -1);
        bound("the variable hides the parameter", in(0, "fn f(x){let x=1;{ret x;}"), 0, -1, 1, -1, 3, -1, -1, -1, 7, -1,
            -1, -1, -1, -1, 7, -1, -1);
        bound("longer and shorter names", in(0, "fn f(xy){let x=1;x=xy;", "xyz=y;}"), 0, -1, 1, -1, 3, -1, -1, -1, 7,
            -1, -1, -1, 7, -1, 3, -1, -1, -1, -1, -1, -1);
    }

    private static void typesAre(String what, Syntaxspan x, int... due) {
        is(27, what, due.length, ask(x, "typeErrors"));
        for (int i = 0; i < due.length; i++) {
            is(28, what + ", error " + i, due[i], ask(x, "typeErrorAt", i));
        }
        is(28, what + ", no error more", INDEX, ask(x, "typeErrorAt", due.length));
    }

    private static void typeErrors() {
        typesAre("none", new Syntaxspan());
        typesAre("numbers", in(0, "fn f(x){ret x+1*2-x;}"));
        typesAre("left, then right", in(0, "fn f(){ret yes+no;}"), 6, 8);
        typesAre("what is in it first", in(0, "fn f(){ret !1+!2;}"), 7, 10, 6, 9);
        typesAre("sides of <", in(0, "fn f(){ret(yes)<no*1;}"), 10, 6);
        typesAre("the right side of ==", in(0, "fn f(){ret 1==yes;}"), 8);
        typesAre("the left one is as it is", in(0, "fn f(){ret yes==1;}"), 8);
        typesAre("its result is BOOL", in(0, "fn f(){ret(1==1)+1;", "ret 1<1;ret 1;}"), 6, 15);
        typesAre("the result stays as it was", in(0, "fn f(){ret 1;ret yes;", "ret 2;ret no;}"), 9, 15);
        typesAre("the other way round", in(0, "fn f(){ret no;ret 1;}"), 9);
        typesAre("of a LET", in(0, "fn f(){let x=1;x=yes;", "x=2;let x=no;x=!x;x=3;}"), 12, 30);
        typesAre("of an IF", in(0, "fn f(x){if x{x=1;}else{", "x=no;}if 1{if 2{}}x=5;}"), 11, 22, 25, 31);
        typesAre("of exprs of a call", in(0, "fn f(x,y){if x{}y=1;", "f(1,1);f(y,x);ret f(no,", "yes);}"), 18, 25, 27,
            35);
        typesAre("another number of exprs", in(0, "fn f(x){f();f(1,yes);", "f(!2);x=yes;}fn g(){g(", "yes);}"), 6, 10,
            20, 33);
        typesAre("bound to nothing", in(0, "fn f(){q=1;q=yes;", "if q{}if!p{}ret q+p(yes)", ";}ret 1+yes;"));
        typesAre("broken ones", in(0, "fn f(){ret 1+yes}fn(){", "ret no+1;}"));
        Syntaxspan x = in(0, "fn f(){ret 1+yes;}use c;");
        more(x, 1, "use a;fn g(){if 1{}f(1)", ";ret f()+1;if f(){}}");
        more(x, 2, "", "fn f(){ret -1;ret !1;}");
        typesAre("file by file", x, 8, 1009, 1012, 1025, 2011);
        typesAre("through the result", in(0, "fn f(){ret g();}", "fn g(){ret no;}fn h(){", "ret f()+1;}"), 26);
        typesAre("a call behind other parts", in(0, "fn f(x){if x{}ret 1+f(no", ")*f(yes);}"));
        Syntaxspan y = in(0, "fn f(x,y,z){}", "fn g(){f(1,yes,2);}");
        typesAre("parameters by calls alone", y);
        for (int i = 0; i < 4; i++) {
            due(26, y, i == 0 ? 0 : i == 2 ? 2 : 1, "typeOf", 0, 1 + 2 * i);
        }
        typesAre("things alike that have no type yet", in(0, "fn f(x,y){x=y;y=1;if x{}", "}"), 17);
    }

    private static void typesOf() {
        Syntaxspan x = in(0, "fn f(x,y,z){y=x==q;z=x;", "if z{}ret 2;q=1;let w=w;", "let v=g();w=v;use b;1");
        more(x, 1, "fn g(a){ret a;}");
        String bools = " 3 5 7 10 12 16 18 21 ";
        for (int i = 0; i < 51; i++) {
            due(26, x, i == 1 ? Syntaxspan.INT : bools.contains(" " + i + " ") ? Syntaxspan.BOOL : Syntaxspan.UNKNOWN,
                "typeOf", 0, i);
        }
        due(26, x, INDEX, "typeOf", 0, 51);
        x.insert(1, 0, 13, '+');
        x.insert(1, 0, 14, '1');
        String ints = " 1 32 37 39 43 45 ";
        for (int i = 0; i < 51; i++) {
            due(26, x, ints.contains(" " + i + " ") ? Syntaxspan.INT : bools.contains(" " + i + " ") ? Syntaxspan.BOOL
                : Syntaxspan.UNKNOWN, "typeOf", 0, i);
        }
        due(26, x, 1, "typeOf", 1, 1);
        due(26, x, 1, "typeOf", 1, 3);
        due(26, x, 1, "typeOf", 1, 7);
    }

    // ---- the spelled name and completions

    private static void spelling() {
        Syntaxspan x = new Syntaxspan();
        for (int sign = 0; sign < 300; sign++) {
            if (sign < 'a' || sign > 'z') {
                due(29, x, ARGUMENT, "spell", sign);
            }
        }
        due(29, x, ARGUMENT, "spell", 256 + 'a');
        due(29, x, ARGUMENT, "spell", 65535);
        due(30, x, 0, "clearName");
        for (int i = 0; i < 26; i++) {
            due(29, x, i % 6 + 1, "spell", 'a' + i);
            if (i % 6 == 5) {
                due(29, x, STATE, "spell", 'a');
                due(30, x, 6, "clearName");
                due(30, x, 0, "clearName");
            }
        }
        due(30, x, 2, "clearName");
    }

    private static void listed(String what, Syntaxspan x, int file, int place, int... due) {
        is(31, what, due.length, ask(x, "completions", file, place));
        for (int i = 0; i < due.length; i++) {
            is(32, what + ", " + i, due[i], ask(x, "completionAt", file, place, i));
        }
        is(32, what + ", one more", NONE, ask(x, "completionAt", file, place, due.length));
        is(32, what + ", far more", NONE, ask(x, "completionAt", file, place, Integer.MAX_VALUE));
        is(32, what + ", below 0", INDEX, ask(x, "completionAt", file, place, -1));
    }

    private static void completing() {
        Syntaxspan x = in(0, "use c;use b;use c;use a;", "fn f(p,q,p){let x=1;{let", " y=2;let x=3;let z=x;",
            "}}fn f(){}fn g(){}");
        more(x, 1, "fn g(){}fn k(){}fn z(){}");
        more(x, 2, "fn k(){}fn k(){}fn y(){");
        listed("blocks, parameters, functions", x, 0, 43, 39, 34, 29, 15, 17, 13, 52, 2001, 2013, 1013);
        listed("behind the inner block", x, 0, 44, 23, 15, 17, 13, 52, 2001, 2013, 1013);
        listed("in the expr of a LET", x, 0, 41, 34, 29, 15, 17, 13, 52, 2001, 2013, 1013);
        listed("no NAME may stand", x, 0, 45);
        listed("at the beginning", x, 0, 0);
        listed("the NAME of a USE", x, 0, 10, 13, 52, 2001, 2013, 1013);
        listed("the NAME of a parameter", x, 0, 15, 13, 52, 2001, 2013, 1013);
        listed("an empty block", x, 0, 22, 15, 17, 13, 52, 2001, 2013, 1013);
        listed("without USE, behind all", x, 2, 17, 2001, 2013);
        more(x, 1, "", "use d;use z;use ab;use");
        listed("a USE behind functions, and some of nothing", x, 1, 28, 1001, 1007, 1013);
        Syntaxspan y = in(0, "fn f(x){let y=1;}use a;");
        listed("behind a function", y, 0, 13, 1);
        listed("in its block", y, 0, 11, 7, 3, 1);
        listed("in its expr", y, 0, 9, 3, 1);
        spell(x, "z");
        listed("one letter", x, 0, 43, 39, 1013);
        x.spell('z');
        listed("two letters", x, 0, 43);
    }

    private static void completingAtEdges() {
        Syntaxspan x = in(0, "fn a(p){let x=1;fn b(q){");
        listed("a block that FN ended", x, 0, 17, 14, 1, 12);
        x = in(0, "fn f(){if 1{let x=1;}", "else{let y=1;");
        listed("the other block of an IF", x, 0, 21, 17, 1);
        listed("the first block of an IF", x, 0, 13, 9, 1);
        listed("behind it", x, 0, 14, 1);
        listed("behind ELSE", x, 0, 15);
        x = in(0, "fn f(x){let x=1;let x=2;", "let = ");
        listed("the last of three", x, 0, 16, 12, 1);
        listed("behind a broken LET", x, 0, 18, 12, 1);
        listed("ahead of the last LET", x, 0, 11, 7, 1);
        listed("ahead of both", x, 0, 6, 3, 1);
        x = in(0, "fn f(x");
        listed("no function in the whole file", x, 0, 3);
        listed("no NAME behind a NAME", x, 0, 4);
        listed("an empty file", x, 1, 0);
        x = in(0, "fn abcdef(abcdefg,abcde,", "a){abcdeg=1;");
        spell(x, "abcdef");
        listed("six letters", x, 0, 10, 3, 1);
        x.clearName();
        spell(x, "abcde");
        listed("five letters", x, 0, 10, 3, 5, 1);
        x.clearName();
        listed("no letters", x, 0, 10, 3, 5, 7, 1);
        spell(x, "b");
        listed("not within a name", x, 0, 10);
        due(31, x, INDEX, "completions", 0, x.tokens(0) + 1);
    }

    // ---- plans

    private static void reasonIs(int due, String what, Syntaxspan x) {
        is(37, what, due, ask(x, "reason"));
        is(37, what + ", asked again", due, ask(x, "reason"));
    }

    private static void renamed(int due, String name, Syntaxspan x, int file, int token) {
        x.clearPlan();
        spell(x, name);
        due(33, x, 1, "planRename", file, token);
        reasonIs(due, "rename of " + token + " of file " + file + " to " + name, x);
    }

    private static void whatCanBeRenamed() {
        Syntaxspan x = in(0, "fn f(x){let y=x;f(y);y=q", ";let z;}use b;fn h(");
        for (int token = 0; token < 30; token++) {
            renamed(token == 1 || token == 3 || token == 7 ? 0 : 2, "w", x, 0, token);
        }
        String[] names = {"", "use", "fn", "let", "if", "else", "ret", "yes", "no"};
        Syntaxspan y = in(0, "fn f(x){x=1;}");
        for (String name : names) {
            renamed(2, name, y, 0, 3);
        }
        for (String name : new String[] {"us", "used", "fnn", "le", "i", "elsee", "re", "ye", "n", "x", "f", "abcdef"}) {
            renamed(0, name, y, 0, 3);
        }
        lines(37, y, 0, "fn f(x){x=1;}");
        due(38, y, 1, "carryOut");
        lines(38, y, 0, "fn f(abcdef){abcdef=1;}");
    }

    private static void longRenames() {
        Syntaxspan x = in(0, "fn f(){ret 100+100+10;}");
        renamed(0, "gg", x, 0, 1);
        due(38, x, 1, "carryOut");
        lines(38, x, 0, "fn gg(){ret 100+100+10;}");
        renamed(3, "ggg", x, 0, 1);
        due(38, x, STATE, "carryOut");
        renamed(0, "k", x, 0, 1);
        Syntaxspan y = in(0, "fn f(x){ret x+", "", "", "", "", "", "", "x+x+x+x+x+x+x+x+x+x+x;}");
        renamed(0, "y", y, 0, 3);
        renamed(3, "yy", y, 0, 3);
        Syntaxspan z = in(1, "fn f(){}");
        more(z, 2, "use b;", "fn g(){ret f()+100+100;}");
        renamed(0, "x", z, 1, 1);
        renamed(3, "xx", z, 1, 1);
        more(z, 0, "", "", "", "", "", "", "", "use b;fn g(){f();}f()");
        renamed(0, "xxxx", more(in(1, "fn f(){}"), 0, "use b;fn g(){f();}f()"), 1, 1);
        renamed(3, "xxxxx", more(in(1, "fn f(){}"), 0, "use b;fn g(){f();}f()"), 1, 1);
        renamed(0, "y", z, 1, 1);
        due(38, z, 1, "carryOut");
        lines(38, z, 0, "", "", "", "", "", "", "", "use b;fn g(){y();}f()");
        lines(38, z, 1, "fn y(){}");
        lines(38, z, 2, "use b;", "fn g(){ret y()+100+100;}");
    }

    private static void renamesThatBindOtherwise() {
        renamed(4, "y", in(0, "fn f(x,y){ret x+y;}"), 0, 3);
        renamed(4, "x", in(0, "fn f(x,y){ret x+y;}"), 0, 5);
        renamed(0, "x", in(0, "fn f(x,y){ret x;}"), 0, 5);
        renamed(4, "y", in(0, "fn f(x,y){ret y;}"), 0, 3);
        renamed(4, "x", in(0, "fn f(x){let y=1;ret x;}"), 0, 7);
        renamed(0, "x", in(0, "fn f(x){ret x;let y=1;}"), 0, 10);
        renamed(4, "q", in(0, "fn f(x){ret q;}"), 0, 3);
        renamed(0, "q", in(0, "fn f(x){q();}"), 0, 3);
        renamed(4, "q", in(0, "fn f(x){q();}"), 0, 1);
        renamed(0, "q", in(0, "fn f(x){ret q;q}"), 0, 1);
        renamed(4, "g", in(0, "fn f(){g();}fn g(){}"), 0, 1);
        renamed(0, "f", in(0, "fn f(){f();}fn g(){}"), 0, 11);
        renamed(4, "f", in(0, "fn f(){g();}fn g(){}"), 0, 11);
        renamed(4, "g", more(in(1, "fn f(){}"), 0, "use b;fn g(){f();}"), 1, 1);
        renamed(4, "g", more(more(in(1, "fn f(){}"), 2, "fn g(){}"), 0, "use c;use b;fn h(){f();}"), 1, 1);
        renamed(0, "g", more(more(in(1, "fn f(){}"), 2, "fn g(){}"), 0, "use b;use c;fn h(){f();}"), 1, 1);
        renamed(4, "g", more(in(1, "fn f(){}"), 0, "use b;fn h(){g();}"), 1, 1);
    }

    private static int inlined(Syntaxspan x, int token) {
        return inlinedIn(x, 0, token);
    }

    private static int inlinedIn(Syntaxspan x, int file, int token) {
        x.clearPlan();
        due(34, x, 1, "planInline", file, token);
        return x.reason();
    }

    private static void inlines(int due, int token, String... lines) {
        is(37, "inlining of " + token + " in " + String.join(" ", lines), due, inlined(in(0, lines), token));
    }

    private static void whatCanBeInlined() {
        Syntaxspan x = in(0, "fn f(x){let y=x;f(y);let", ";let z=2;ret z;}fn g(y){");
        for (int token = 0; token < x.tokens(0); token++) {
            is(37, "inlining of " + token, token == 7 || token == 19 ? 0 : 2, inlined(x, token));
        }
        inlines(2, 7, "fn f(x){let y=", "1;ret y;}");
        inlines(2, 7, "fn f(x){let y=1", ";ret y;}");
        inlines(2, 7, "fn f(x){let", "y=1;ret y;}");
        inlines(0, 7, "fn f(x){", "let y=1;", "ret y;}");
        inlines(2, 7, "fn f(x){let y=1;y=2;}");
        inlines(2, 7, "fn f(x){let y=1;{{y=y;}}", "}");
        inlines(0, 7, "fn f(x){let y=1;let y=2;", "y=3;}");
        inlines(2, 12, "fn f(x){let y=1;let y=2;", "y=3;}");
        inlines(0, 11, "fn f(x){y=3;let y=1;y=}");
        inlines(2, 7, "fn f(x){let y=f();}");
        inlines(2, 7, "fn f(x){let y=1+(q(1));}");
        inlines(0, 7, "fn f(x){let y=(x)*(1);}");
        inlines(2, 7, "fn f(x){let y=1+x;x=2;}");
        inlines(2, 11, "fn f(x){x=2;let y=1+x;}");
        inlines(2, 7, "fn f(x){let y=x+1;x=2;}");
        inlines(2, 9, "fn f(x,z){let y=z+1+x;", "z=1;}");
        Syntaxspan other = in(2, "fn f(x){let y=q+x;ret y;", "}fn g(x){x=1;}");
        is(37, "inlining in another file", 0, inlinedIn(other, 2, 7));
        other.erase(2, 0, 15);
        other.erase(2, 0, 15);
        is(37, "inlining of a NAME bound to nothing", 0, inlinedIn(other, 2, 7));
        due(38, other, 1, "carryOut");
        lines(38, other, 2, "fn f(x){ret q;", "}fn g(x){x=1;}");
        inlines(0, 7, "fn f(x){let y=1+x;{let x", "=2;x=3;}}fn g(x){x=1;}");
        inlines(0, 7, "fn f(x){let y=q;q=1;", "ret y+q;}");
        inlines(2, 7, "fn f(x){let y=x;{let x=2", ";ret y;}}");
        inlines(0, 7, "fn f(x){let y=x;{let x=2", ";}ret y;}");
        inlines(2, 7, "fn f(x){let y=q;let q=1;", "ret y;}");
        inlines(0, 7, "fn f(x){let y=q;ret y;", "let q=1;}");
        inlines(2, 7, "fn f(x){let x=x;ret x;}");
        inlines(0, 7, "fn f(x){let x=x;}");
        inlines(2, 7, "fn f(x){let y=x+q;if y{}", "let q=1;ret y;}");
    }

    private static void inlinedTo(String what, Syntaxspan x, int token, String... due) {
        is(37, what, 0, inlined(x, token));
        due(38, x, 1, "carryOut");
        lines(38, x, 0, due);
    }

    private static void textsOfInlines() {
        inlinedTo("one token", in(0, "fn f(x){let y=3;ret y;", "ret(y)*y;if y{f(y,!y);}}"), 7, "fn f(x){ret 3;",
            "ret(3)*3;if 3{f(3,!3);}}");
        inlinedTo("one name", in(0, "fn f(x){let yyy=x;", "ret yyy*2;}"), 7, "fn f(x){", "ret x*2;}");
        inlinedTo("two tokens", in(0, "fn f(x){let y = ! no ;", "ret y==y;}"), 7, "fn f(x){", "ret (!no)==(!no);}");
        inlinedTo("in brackets already", in(0, "fn f(x){let y=(1);", "ret y;}"), 7, "fn f(x){", "ret ((1));}");
        inlinedTo("blanks and comments", in(0, "fn f(x){", " let y=x /*k*/ ==  1; /*", " a*/ ret y;}"), 7, "fn f(x){",
            "  /*", " a*/ ret (x==1);}");
        inlinedTo("never used", in(0, "fn f(x){/*/*/let y=1;;}"), 7, "fn f(x){/*/*/;}");
        inlinedTo("all of a line", in(0, "fn f(x){", "let y=1;", "ret y;}"), 7, "fn f(x){", "", "ret 1;}");
        inlinedTo("only its own", in(0, "fn f(x){let y=x;let y=y;", "ret y;}"), 7, "fn f(x){let y=x;", "ret y;}");
    }

    private static void longInlines() {
        inlinedTo("24 chars", in(0, "fn f(){let y=10+10;", "ret y+100+100+100;", "}"), 6, "fn f(){",
            "ret (10+10)+100+100+100;", "}");
        inlines(3, 6, "fn f(){let y=10+10;", "ret y+100+100+100 ;", "}");
        inlinedTo("its own line gets shorter", in(0, "fn f(){", "let y=10+10;ret y+y;", "}"), 6, "fn f(){",
            "ret (10+10)+(10+10);", "}");
        inlines(3, 6, "fn f(){", "let y=10+10;ret y+y+y;", "}");
        inlinedTo("24 chars in its own line", in(0, "fn f(){", "let y=10+10;ret y+y+100;", "}"), 6, "fn f(){",
            "ret (10+10)+(10+10)+100;", "}");
        inlines(3, 6, "fn f(){", "let y=100+10;ret y+y+10;", "}");
    }

    private static int moved(Syntaxspan x, int file, int token, int other) {
        x.clearPlan();
        due(35, x, 1, "planMove", file, token, other);
        return x.reason();
    }

    private static void moves(int due, int token, String... lines) {
        is(37, "move of " + token + " in " + String.join(" ", lines), due, moved(in(0, lines), 0, token, 2));
    }

    private static void whatCanBeMoved() {
        Syntaxspan x = in(0, "fn f(x){let y=1;f();}", "fn g(){}fn h(){}use a;");
        for (int token = 0; token < 31; token++) {
            is(37, "move of " + token, token == 1 ? 0 : 2, moved(x, 0, token, 1));
        }
        moves(2, 1, "fn f(){");
        moves(2, 1, "fn f(){", "fn g(){}");
        moves(2, 1, "fn f(){if 1{}", "use a;");
        moves(2, 2, ";", "fn f(){");
        moves(2, 2, ";", "fn f(){", "use a;");
        moves(2, 1, ";", "f", "fn f(){}");
        moves(0, 3, ";", "f", "fn f(){}");
        moves(2, 1, "fn f(){}}");
        moves(2, 2, ";fn f(){}");
        moves(2, 1, "fn f(){", "}use b;");
        moves(2, 4, "use b", ";fn f(){}");
        moves(0, 4, "use b;", "fn f(){}", "x");
        moves(0, 1, "/**/fn f(){", "/*", "*/", "}/**/");
        moves(2, 1, "/*", "*/fn f(){}");
        moves(0, 1, "/*", "*/", "fn f(){}");
        moves(2, 1, "fn f(){}/*");
        moves(2, 1, "fn f(){}/*", "*/");
        moves(0, 1, "fn f(){}", "/*");
        moves(2, 1, "fn f( {}");
        moves(0, 1, "fn f(){let}", "fn f(){}");
        moves(0, 7, "fn g(){}", "fn f(){let}");
        is(37, "the other file ends in a comment", 2, moved(more(in(0, "fn f(){}"), 2, "x/*"), 0, 1, 2));
        is(37, "but not in the line of its last token", 0, moved(more(in(0, "fn f(){}"), 2, "x", "/*"), 0, 1, 2));
        is(37, "only a comment", 0, moved(more(in(0, "fn f(){}"), 2, "/*"), 0, 1, 2));
        is(37, "a token behind a comment", 0, moved(more(in(0, "fn f(){}"), 2, "/*", "*/x"), 0, 1, 2));
    }

    private static void roomForMoves() {
        String[] eight = {"fn f(){", "", " ", "", "/*", "*/", "", "}"};
        Syntaxspan x = in(0, eight);
        is(37, "eight lines", 0, moved(x, 0, 1, 1));
        due(38, x, 1, "carryOut");
        lines(38, x, 0);
        lines(38, x, 1, eight);
        is(37, "a comment would go down", 3, moved(more(in(0, eight), 1, "/*"), 0, 1, 1));
        is(37, "a blank would go down", 3, moved(more(in(0, eight), 1, "", "", "", " "), 0, 1, 1));
        is(37, "no line behind the last one", 3, moved(more(in(0, "fn f(){}"), 1, "", "", "", "", "", "", "", "x"), 0, 1,
            1));
        is(37, "two lines behind line 5", 0, moved(more(in(0, "fn f(){", "}"), 1, "", "", "", "", "", "x"), 0, 1, 1));
        is(37, "two lines behind line 6", 3, moved(more(in(0, "fn f(){", "}"), 1, "", "", "", "", "", "", "x"), 0, 1, 1));
        is(37, "a full last line", 3, moved(more(in(0, "fn f(){", "}"), 1, "x", "", "", "", "", "", " "), 0, 1, 1));
        is(37, "the line above it", 0, moved(more(in(0, "fn f(){", "}"), 1, "x", "", "", "", "", " "), 0, 1, 1));
        Syntaxspan y = in(0, "/*0*/", "fn f(){", "", "}", "/*4*/", "", "g", "/*7");
        more(y, 2, "", "x", "/*2*/", "", "/*4");
        is(37, "lines below", 0, moved(y, 0, 1, 2));
        due(38, y, 1, "carryOut");
        lines(38, y, 0, "/*0*/", "/*4*/", "", "g", "/*7");
        lines(38, y, 2, "", "x", "fn f(){", "", "}", "/*2*/", "", "/*4");
        Syntaxspan z = in(1, "", "", "fn f(){}");
        more(z, 0, "/*0*/", "", "/*2");
        is(37, "ahead of all", 0, moved(z, 1, 1, 0));
        due(38, z, 1, "carryOut");
        lines(38, z, 0, "fn f(){}", "/*0*/", "", "/*2");
        lines(38, z, 1);
    }

    private static void usesOfMoves() {
        Syntaxspan x = in(0, "use c;", "fn f(){g();h();k();f();}", "fn g(){f();}");
        more(x, 2, "use a;fn h(){f();}");
        is(37, "all need it", 0, moved(x, 0, 4, 1));
        due(38, x, 1, "carryOut");
        lines(38, x, 0, "use b;", "use c;", "fn g(){f();}");
        lines(38, x, 1, "use c;", "use a;", "fn f(){g();h();k();f();}");
        lines(38, x, 2, "use b;", "use a;fn h(){f();}");
        Syntaxspan y = in(0, "fn f(){g();}", "fn g(){f();}", "use b;use b");
        more(y, 1, "use a;");
        is(37, "used already", 0, moved(y, 0, 1, 1));
        due(38, y, 1, "carryOut");
        lines(38, y, 0, "fn g(){f();}", "use b;use b");
        lines(38, y, 1, "use a;", "fn f(){g();}");
        Syntaxspan z = in(0, "use b", "fn f(){}", "fn g(){f();}");
        is(37, "a broken USE", 0, moved(z, 0, 3, 1));
        due(38, z, 1, "carryOut");
        lines(38, z, 0, "use b;", "use b", "fn g(){f();}");
        lines(38, z, 1, "fn f(){}");
        Syntaxspan w = in(0, "fn f(){f();q();}", "fn g(f){ret f;}");
        is(37, "nothing needs it", 0, moved(w, 0, 1, 2));
        due(38, w, 1, "carryOut");
        lines(38, w, 0, "fn g(f){ret f;}");
        lines(38, w, 2, "fn f(){f();q();}");
    }

    private static void roomForUses() {
        String[] full = {"fn f(){}", "fn g(){f();}", "", "", "", "", "", "x"};
        Syntaxspan x = in(0, full);
        is(37, "the line that was taken out is room", 0, moved(x, 0, 1, 1));
        due(38, x, 1, "carryOut");
        lines(38, x, 0, "use b;", "fn g(){f();}", "", "", "", "", "", "x");
        Syntaxspan y = in(0, "fn f(){}");
        more(y, 2, "use a;fn g(){f();}", "", "", "", "", "", "", " ");
        is(37, "a third file is full", 3, moved(y, 0, 1, 1));
        y.erase(2, 7, 0);
        is(37, "its last line is empty", 0, moved(y, 0, 1, 1));
        Syntaxspan z = in(0, "fn f(){g();}", "fn g(){}");
        more(z, 1, "", "", "", "", "", "", "x");
        is(37, "moved to the last line, and a USE", 3, moved(z, 0, 1, 1));
        z.clear(1, 6);
        more(z, 1, "", "", "", "", "", "x");
        is(37, "one line of room more", 0, moved(z, 0, 1, 1));
        Syntaxspan w = in(0, "use c;", "fn f(){g();h();}", "fn g(){}");
        more(w, 1, "", "", "", "", "", "x");
        more(w, 2, "fn h(){}");
        is(37, "two of them, and room for one", 3, moved(w, 0, 4, 1));
        w.clear(1, 5);
        more(w, 1, "", "", "", "", "x");
        is(37, "two of them, and room for both", 0, moved(w, 0, 4, 1));
    }

    private static void movesThatBindOtherwise() {
        is(37, "its call", 4, moved(more(in(0, "fn f(){g();}", "fn g(){}"), 1, "fn g(){}"), 0, 1, 1));
        is(37, "a call of it", 4, moved(more(in(0, "fn f(){}", "fn g(){f();}"), 1, "fn f(){}"), 0, 1, 1));
        is(37, "another one of its name", 4, moved(in(0, "fn f(){}", "fn f(){}", "fn g(){f();}"), 0, 1, 1));
        is(37, "the second of its name", 0, moved(in(0, "fn f(){}", "fn f(){}", "fn g(){f();}"), 0, 7, 1));
        is(37, "its call of a second of its name", 4, moved(in(0, "fn f(){}", "fn f(){f();}"), 0, 7, 1));
        is(37, "bound, and was not", 4, moved(more(in(0, "fn f(){g();}"), 1, "fn g(){}"), 0, 1, 1));
        is(37, "a call there is bound, and was not", 4, moved(more(in(0, "fn f(){}"), 1, "fn g(){f();}"), 0, 1, 1));
        is(37, "by the new USE", 4, moved(more(in(0, "fn f(){}", "fn g(){f();h();}"), 1, "fn h(){}"), 0, 1, 1));
        is(37, "by the new USE, the first file", 4, moved(more(more(in(0, "fn f(){}", "use c;fn g(){f();h();}"), 1,
            "fn h(){}"), 2, "fn h(){}"), 0, 1, 1));
        is(37, "behind a USE that is there", 0, moved(more(more(in(0, "fn f(){}", "use c;use b;",
            "fn g(){f();h();}"), 1, "fn h(){}"), 2, "fn h(){}"), 0, 1, 1));
        is(37, "the first of two stays the first", 0, moved(more(in(0, "fn f(){}", "fn g(){f();}"), 1,
            "fn h(){h();}"), 0, 1, 1));
        is(37, "no room comes ahead of that", 3, moved(more(in(0, "fn f(){g();}", "fn g(){}"), 1, "fn g(){}", "", "", "",
            "", "", "", " "), 0, 1, 1));
        is(37, "what does not hold comes ahead of that", 2, moved(more(in(0, "fn f(){g();}/*", "*/fn g(){}"), 1,
            "fn g(){}", "", "", "", "", "", "", " "), 0, 1, 1));
    }

    private static void rowsOfChanges() {
        Syntaxspan x = in(0, "fn f(x){let y=1;", "ret y+x;}");
        spell(x, "q");
        due(34, x, 1, "planInline", 0, 7);
        due(33, x, 2, "planRename", 0, 3);
        due(35, x, 3, "planMove", 0, 1, 2);
        reasonIs(0, "three changes", x);
        lines(37, x, 0, "fn f(x){let y=1;", "ret y+x;}");
        due(38, x, 3, "carryOut");
        lines(38, x, 0);
        lines(38, x, 2, "fn f(q){", "ret 1+q;}");
        due(36, x, 0, "clearPlan");
        due(38, x, STATE, "carryOut");
        due(7, x, 2, "back", 2);
        Syntaxspan y = in(0, "fn f(x){let y=1;let z=2;", "ret y+z;}");
        due(34, y, 1, "planInline", 0, 7);
        due(34, y, 2, "planInline", 0, 7);
        reasonIs(0, "the token of that number then", y);
        due(34, y, 3, "planInline", 0, 7);
        reasonIs(2, "no third LET", y);
        due(36, y, 3, "clearPlan");
        due(34, y, 1, "planInline", 0, 7);
        due(34, y, 2, "planInline", 0, 12);
        reasonIs(2, "the token has another number then", y);
        y.clearPlan();
        due(34, y, 1, "planInline", 0, 7);
        due(33, y, 2, "planRename", 0, 20);
        reasonIs(2, "there is no token of that number then", y);
        due(38, y, STATE, "carryOut");
        lines(38, y, 0, "fn f(x){let y=1;let z=2;", "ret y+z;}");
        due(36, y, 2, "clearPlan");
        spell(y, "x");
        y.planRename(0, 7);
        spell(y, "w");
        y.planRename(0, 7);
        y.planRename(0, 5);
        reasonIs(2, "a name that is hidden is used by nothing", y);
    }

    private static void firstReason() {
        Syntaxspan x = in(0, "fn f(x,y){ret x+y;}", "fn g(){ret 100+100+10;}");
        spell(x, "y");
        x.planRename(0, 3);
        reasonIs(4, "binds otherwise", x);
        x.planRename(0, 0);
        reasonIs(4, "the first one", x);
        x.clearPlan();
        spell(x, "ggg");
        x.planRename(0, 15);
        spell(x, "y");
        x.planRename(0, 3);
        x.planRename(0, 0);
        reasonIs(3, "too long, then binds otherwise", x);
        x.insert(2, 7, 0, ' ');
        reasonIs(1, "a line was changed", x);
        due(38, x, STATE, "carryOut");
        x.erase(2, 7, 0);
        reasonIs(1, "it was changed, though it is as it was", x);
        due(36, x, 3, "clearPlan");
        x.planRename(0, 0);
        spell(x, "ggg");
        x.planRename(0, 15);
        reasonIs(2, "what does not hold, then too long", x);
    }

    private static void changesOfLines() {
        String[] edits = {"insert 2 7 0 32", "erase 0 0 0", "paste 1 0 3", "clear 0 0", "back 0", "clear 0 7",
            "erase 0 7 0"};
        for (String edit : edits) {
            String[] parts = edit.split(" ");
            int[] given = new int[parts.length - 1];
            for (int i = 0; i < given.length; i++) {
                given[i] = Integer.parseInt(parts[i + 1]);
            }
            Syntaxspan x = in(0, "fn f(x){}", "", "", "", "", "", "", " ");
            spell(x, "y");
            x.planRename(0, 3);
            reasonIs(0, "ahead of " + edit, x);
            ask(x, parts[0], given);
            reasonIs(1, "behind " + edit, x);
            x.tokens(0);
            due(38, x, STATE, "carryOut");
            due(36, x, 1, "clearPlan");
            reasonIs(0, "empty, behind " + edit, x);
        }
        Syntaxspan x = in(0, "fn f(x){}");
        spell(x, "y");
        x.save(0);
        x.planRename(0, 3);
        x.save(0);
        x.back(0);
        x.clear(0, 1);
        ask(x, "insert", 0, 0, 9, 31);
        ask(x, "paste", 0, 0, 24);
        ask(x, "erase", 0, 1, 0);
        spell(x, "fn");
        reasonIs(0, "no line was changed", x);
        x.insert(0, 1, 0, ' ');
        due(33, x, 2, "planRename", 0, 1);
        reasonIs(1, "since its first change was planned", x);
        due(36, x, 2, "clearPlan");
        spell(x, "y");
        due(33, x, 1, "planRename", 0, 3);
        reasonIs(0, "planned behind the edit", x);
        due(38, x, 1, "carryOut");
        due(33, x, 1, "planRename", 0, 3);
        reasonIs(0, "planned behind carryOut", x);
        due(7, x, 2, "back", 0);
        reasonIs(1, "back from what a plan did", x);
        lines(7, x, 0, "fn f(x){}");
    }

    // ---- running

    private static void gives(String what, long due, Syntaxspan x, int function, int first, int second) {
        is(39, what, due, ask(x, "run", 0, function, first, second));
    }

    private static void values() {
        int least = Integer.MIN_VALUE;
        int most = Integer.MAX_VALUE;
        Syntaxspan x = in(0, "fn f(a,b){ret a*b-b;}", "fn g(a){a=a*a;a=a*a;", "ret a*a;}fn h(a,b,c){ret", "a+b*10+c*100;}");
        gives("least by least", (long) least * least - least, x, 0, least, least);
        gives("most by least", (long) most * least - least, x, 0, most, least);
        for (int a : new int[] {3, -7, 255, 256, 65535, 65536, least, most, -1, 0}) {
            long p = (long) a * a;
            p = p * p;
            gives("wraps around", p * p, x, 1, a, 5);
        }
        gives("a third parameter is 0", 43, x, 2, 3, 4);
        Syntaxspan y = in(0, "fn f(a){if a*a{ret(a*a==", "0)+!(a*a);}ret 5;}", "fn g(a,b){ret(a<b)+(b<a)",
            "*2+(a==b)*4;}", "fn h(){ret 007*999+000;}", "fn k(a){if a{ret 1;}if!a", "{ret 2;}else{ret 3;}}");
        gives("long numbers are not 0", 0, y, 0, 65536, 0);
        gives("0 is", 5, y, 0, 0, 0);
        gives("less", 1, y, 1, -1, 0);
        gives("more", 2, y, 1, 0, least);
        gives("as much", 4, y, 1, most, most);
        gives("three digits", 6993, y, 2, 0, 0);
        gives("below 0 is not 0", 1, y, 3, -1, 0);
        gives("0 goes to the second IF", 2, y, 3, 0, 0);
        Syntaxspan z = in(0, "fn f(){ret!0*100+!1*10+!", "7+yes*4+no;}fn g(a){a=1", "}", "fn h(a,a){ret a;}",
            "fn k(a){{{ret 1;}}ret 2;", "}fn m(){}");
        gives("! gives 1 or 0", 104, z, 0, 0, 0);
        Syntaxspan w = in(0, "fn f(){}fn g(){ret 5;}", "fn h(a,b,c){ret c*100+a;", "}fn k(){ret 1+(2+(3+4));",
            "}fn m(a){if a{a=1;}else{", "a=2;}ret a;}");
        gives("without RET, ahead of another function", 0, w, 0, 0, 0);
        gives("parts of parts", 10, w, 3, 0, 0);
        gives("a third parameter is 0, behind another run", 7, w, 2, 7, 8);
        gives("the first block alone", 1, w, 4, 9, 0);
        gives("the second block alone", 2, w, 4, 0, 0);
        gives("without RET", 0, z, 1, 7, 7);
        gives("the first of two parameters", 3, z, 2, 3, 4);
        gives("RET in a block", 1, z, 3, 0, 0);
        gives("an empty block", 0, z, 4, 9, 9);
        due(39, z, INDEX, "run", 0, 5, 0, 0);
    }

    private static void calls() {
        Syntaxspan x = in(0, "fn f(a,b){ret g()*10+a;}", "fn g(a,b){ret a+b+q(a)+q", ";}fn h(){ret g(7,8)*0+",
            "g(1);}fn k(a){ret g(a,2,", "3);}fn m(a){ret w+n();}", "fn n(){n=5;let p=n;ret n", ";}");
        gives("parameters without an expr", 5, x, 0, 5, 6);
        gives("and without what an earlier call had", 1, x, 2, 0, 0);
        gives("an expr without a parameter", 9, x, 3, 7, 0);
        gives("bound to nothing", 0, x, 4, 7, 0);
        Syntaxspan y = in(0, "fn f(a){if a{ret 1+f(a-1", ");}ret 10;}", "fn g(a){if a{ret 1+h(a-1", ");}ret 10;}use b;");
        more(y, 1, "use a;fn h(a){if a{ret 1", "+g(a-1);}ret 20;}");
        gives("one function", 10, y, 0, 0, 0);
        gives("three functions", 12, y, 0, 2, 0);
        gives("four functions", 13, y, 0, 3, 0);
        gives("five functions", 4, y, 0, 4, 0);
        gives("far more", 4, y, 0, 1000, 0);
        gives("four of two files", 23, y, 1, 3, 0);
        gives("five of two files", 4, y, 1, 4, 0);
        Syntaxspan z = in(0, "fn f(){let a=g(1)+g(2);", "ret a*10+g(0);}", "fn g(a){let b=a;b=b+1;", "ret b;}");
        gives("variables of each run", 51, z, 0, 0, 0);
    }

    /** A call of k, in a function that is run, is 65 steps: itself, three calls with 19 and the steps of these, and RET. */
    private static Syntaxspan stepping(String... lines) {
        Syntaxspan x = in(0, "fn k(){k();k();k();", "ret 1;}");
        return more(x, 0, lines.length > 0 ? new String[] {"", "", lines[0], lines.length > 1 ? lines[1] : "",
            lines.length > 2 ? lines[2] : ""} : new String[0]);
    }

    private static void steps() {
        gives("199 steps", 1, stepping(), 0, 0, 0);
        gives("199 steps", 1, stepping("fn t(){k();k();k();", "ret 1;}"), 1, 0, 0);
        gives("200 steps", 1, stepping("fn t(){k();k();k();", "x=1;ret 1;}"), 1, 0, 0);
        gives("201 steps", 0, stepping("fn t(){k();k();k();", "x=1;x=1;ret 1;}"), 1, 0, 0);
        gives("LET is one", 0, stepping("fn t(){k();k();k();", "x=1;let x=1;ret 1;}"), 1, 0, 0);
        gives("a block is one", 0, stepping("fn t(){k();k();k();", "x=1;{}ret 1;}"), 1, 0, 0);
        gives("IF is one", 0, stepping("fn t(){k();k();k();", "x=1;if 0{}ret 1;}"), 1, 0, 0);
        gives("blocks of an IF are none", 1, stepping("fn t(){k();k();k();", "if 0{}else{ret 1;}}"), 1, 0, 0);
        gives("broken ones are none", 1, stepping("fn t(){k();k();k();", "x=1;x=;1;ret 1;}"), 1, 0, 0);
        gives("a call of nothing is none", 1, stepping("fn t(){k();k();k();", "ret 1+q()+q(q());}"), 1, 0, 0);
        gives("a call as a statement is two", 0, stepping("fn t(){k();k();k();", "m();ret 1;}fn m(){}"), 1, 0, 0);
        gives("a call in an expr is one", 3, stepping("fn t(){k();k();k();", "ret m()+3;}fn m(){}"), 1, 0, 0);
        gives("the last step is a call", 7, stepping("fn t(){k();k();k();", "ret k()+7;}"), 1, 0, 0);
        gives("a call when there are no steps", 5, stepping("fn t(){k();k();k();", "x=1;ret k()+5;}"), 1, 0, 0);
        gives("a block that there are no steps for", 0, stepping("fn t(){k();k();k();", "x=1;if 1{ret 4;}ret 5;}"), 1, 0,
            0);
        gives("a value when there are no steps", 0, stepping("fn t(a){k();k();k();", "x=1;a=9;ret a;}"), 1, 3, 0);
        gives("exprs of a call of nothing", 1, stepping("fn t(){q(k());q(k());", "q(k());x=1;ret 1;}"), 1, 0, 0);
        gives("exprs of it are told", 0, stepping("fn t(){q(k());q(k());", "q(k());x=1;x=1;ret 1;}"), 1, 0, 0);
        gives("exprs without a parameter", 1, stepping("fn t(){m(k());k();", "k();ret 1;}fn m(){}"), 1, 0, 0);
        gives("exprs without one are told", 0, stepping("fn t(){m(k());k();", "k();x=1;ret 1;}fn m(){}"), 1, 0, 0);
        gives("exprs of those that give 0", 4, stepping("fn t(){k();k();k();", "x=1;ret q(k())+4;}"), 1, 0, 0);
        Syntaxspan again = stepping("fn t(){k();k();k();", "x=1;ret 1;}");
        for (int i = 0; i < 5; i++) {
            gives("199 steps of each run", 1, again, 0, 0, 0);
            gives("200 steps of each run", 1, again, 1, 0, 0);
        }
        Syntaxspan x = in(0, "fn f(){ret g();}", "fn g(){ret h();}fn h(){", "ret m(m(1));}fn m(a){", "ret f()+a;}");
        gives("a fifth function is not run, nor in its exprs", 1, x, 3, 1, 0);
        gives("a fourth one is, twice", 1, x, 0, 1, 0);
    }

    // ---- all in all

    /** 512 calls of the dearest kinds, and what they leave. */
    private static void manyCalls() {
        Syntaxspan x = in(0, "fn f(x){ret x+f(x-1);}");
        spell(x, "y");
        int calls = 24;
        for (int i = 0; calls + 5 <= 508; i++) {
            char was = x.charAt(0, 0, 5);
            x.clearName();
            x.spell(was == 'x' ? 'y' : 'x');
            due(33, x, 1, "planRename", 0, 3);
            due(38, x, 1, "carryOut");
            calls += 5;
        }
        due(39, x, 4 + 3 + 2 + 1, "run", 0, 0, 4, 0);
        due(24, x, 3, "binding", 0, 7);
        due(3, x, 'f' + 0, "erase", 0, 0, 0);
        Syntaxspan y = in(0, "fn f(x){{let y=x;{", "let z=y;ret z;");
        for (int i = 0; i < 140; i++) {
            due(31, y, 4, "completions", 0, 18);
            due(32, y, 14, "completionAt", 0, 18, 0);
            due(21, y, set(0, 1, 8, 9, 10, 22), "may", 0, 19);
        }
        more(y, 0, "", "", "}ret y+z;}ret y;}");
        binds("in its block", y, 0, 19, 14);
        binds("of the block around", y, 0, 23, 8);
        binds("behind its block", y, 0, 25, -1);
        binds("behind the other one", y, 0, 29, -1);
        due(17, y, 0, "errors", 0);
    }

    /** Whatever was edited, answers are those of a fresh run. */
    private static void freshRuns() {
        Syntaxspan x = in(0, "/* fn h(){", "fn f(x){ret g(x);}", "use b;*/");
        more(x, 1, "fn g(y){ret!y;}");
        due(24, x, INDEX, "binding", 0, 0);
        x.erase(0, 0, 0);
        x.erase(0, 0, 0);
        x.clear(0, 0);
        x.erase(0, 2, 7);
        x.erase(0, 2, 6);
        Syntaxspan y = more(in(1, "fn g(y){ret!y;}"), 0, "", "fn f(x){ret g(x);}", "use b;");
        for (int t = 0; t < 16; t++) {
            due(12, x, ask(y, "token", 0, t), "token", 0, t);
            due(24, x, ask(y, "binding", 0, t), "binding", 0, t);
            due(26, x, ask(y, "typeOf", 0, t), "typeOf", 0, t);
        }
        due(24, x, 1001, "binding", 0, 7);
        due(26, x, 2, "typeOf", 0, 3);
        due(39, x, 1, "run", 0, 0, 0, 0);
        x.clear(1, 0);
        due(24, x, NONE, "binding", 0, 7);
        due(26, x, 0, "typeOf", 0, 3);
        due(39, x, 0, "run", 0, 0, 0, 0);
        due(14, x, 5, "colour", 0, 1, 12);
    }

    /** Calls that can be asked without a change. */
    private static final String[] ASKED = {"tokens 0", "token 0 9", "tokenAnew 0 9", "colour 0 1 4", "partner 0 5",
        "fold 0 0", "errors 0", "errorAt 0 0", "repair 0 0", "tree 0", "may 0 10", "functions 0", "functionAt 0 1",
        "binding 0 7", "bindingAnew 0 7", "typeOf 0 3", "typeErrors", "typeErrorAt 0", "completions 0 7",
        "completionAt 0 7 1", "run 0 1 5 6", "relexed", "length 0 3", "charAt 0 1 2"};

    private static Syntaxspan broken() {
        return more(in(0, "fn f(x){ret g(x);", "x=yes+;}", "use b;fn k(a){ret a;}"), 1, "fn g(a){ret a*2;}");
    }

    /** Brings an object to another text in one way, so that its next call is the first one behind that. */
    private static void change(Syntaxspan x, int way) {
        switch (way) {
            case 0: x.insert(0, 1, 6, '1'); break;
            case 1: x.erase(0, 1, 5); break;
            case 2: x.clear(1, 0); break;
            case 3: x.paste(0, 0, 18); break;
            case 4: x.back(0); break;
            case 5: x.clear(0, 2); break;
            case 6: x.back(1); break;
            default: x.carryOut();
        }
    }

    private static String given(Syntaxspan x, String row) {
        String[] parts = row.split(" ");
        int[] given = new int[parts.length - 1];
        for (int i = 0; i < given.length; i++) {
            given[i] = Integer.parseInt(parts[i + 1]);
        }
        return ask(x, parts[0], given);
    }

    /** Each call is the first one behind an edit, and has to answer as an object that never had another text. */
    private static void firstAsked() {
        for (int way = 0; way < 8; way++) {
            for (String row : ASKED) {
                Syntaxspan x = broken();
                x.save(1);
                x.insert(1, 0, 12, 'x');
                spell(x, "");
                x.planRename(0, 3);
                x.clearPlan();
                spell(x, "w");
                if (way > 6) {
                    x.planRename(0, 3);
                }
                x.clearName();
                given(x, row);
                change(x, way);
                String got = given(x, row);
                Syntaxspan y = in(0, line(x, 0, 0), line(x, 0, 1), line(x, 0, 2));
                more(y, 1, line(x, 1, 0));
                String due = given(y, row);
                if (!row.equals("relexed")) {
                    is(10, row + " behind change " + way, due, got);
                }
            }
        }
    }

    /** What was taken out is bound to nothing any more, and nothing that was read of it is left. */
    private static void takenOut() {
        Syntaxspan x = in(0, "use b;", "fn f(x){g();let y=x;", "ret yes+y;}", "fn h(){ret 1;}");
        more(x, 1, "fn g(){}");
        due(24, x, 1001, "binding", 0, 9);
        due(27, x, 1, "typeErrors");
        x.clear(0, 0);
        due(24, x, NONE, "binding", 0, 6);
        due(25, x, NONE, "bindingAnew", 0, 6);
        due(31, x, 4, "completions", 0, 15);
        x.clear(0, 3);
        due(31, x, 3, "completions", 0, 15);
        due(32, x, NONE, "completionAt", 0, 15, 3);
        due(32, x, 11, "completionAt", 0, 15, 0);
        due(22, x, 1, "functions", 0);
        x.erase(0, 1, 12);
        due(24, x, NONE, "binding", 0, 18);
        due(28, x, 16, "typeErrorAt", 0);
        x.clear(0, 2);
        due(27, x, 0, "typeErrors");
        due(17, x, 2, "errors", 0);
        x.clear(0, 1);
        due(17, x, 0, "errors", 0);
        due(20, x, 7, "tree", 0);
        due(11, x, 0, "tokens", 0);
        due(32, x, NONE, "completionAt", 0, 0, 0);
        Syntaxspan z = in(0, "fn f(){g();}fn g(){}");
        due(24, z, 11, "binding", 0, 5);
        z.erase(0, 0, 13);
        due(24, z, NONE, "binding", 0, 5);
        due(24, z, NONE, "binding", 0, 11);
        due(14, z, 5, "colour", 0, 0, 14);
        z.erase(0, 0, 0);
        due(24, z, NONE, "binding", 0, 1);
        due(26, z, 0, "typeOf", 0, 1);
        due(14, z, 5, "colour", 0, 0, 2);
        Syntaxspan w = more(in(0, "use b;fn f(){g();}"), 1, "fn g(){}");
        due(24, w, 1001, "binding", 0, 8);
        w.clear(0, 0);
        more(w, 0, "fn b(){g();}");
        due(24, w, NONE, "binding", 0, 5);
        due(31, w, 1, "completions", 0, 5);
        Syntaxspan y = in(0, "fn f(){}fn g(){}");
        due(14, y, 3, "colour", 0, 0, 11);
        y.clear(0, 0);
        more(y, 0, "fn f(x){let y=1;}");
        due(14, y, 4, "colour", 0, 0, 12);
        due(35, y, 1, "planMove", 0, 7, 1);
        reasonIs(2, "a variable where a function was", y);
    }

    /** A completion can be asked for without the number of them, and behind that of another place. */
    private static void completionsAlone() {
        Syntaxspan x = in(0, "fn f(a){ret a;}fn g(b){");
        due(32, x, 3, "completionAt", 0, 7, 0);
        due(32, x, 13, "completionAt", 0, 16, 0);
        due(31, x, 3, "completions", 0, 7);
        due(32, x, 1, "completionAt", 0, 16, 1);
        x.spell('g');
        due(32, x, 11, "completionAt", 0, 7, 0);
        due(32, x, NONE, "completionAt", 0, 7, 1);
    }

    private static void edits() {
        inserting();
        erasing();
        pasting();
        clearing();
        saving();
        lookedAtLines();
        lookedAtBehindAPlan();
        wordsAndNumbers();
        signs();
        comments();
        fullFile();
        fullOfBlocks();
        colours();
        brackets();
    }

    private static void readings() {
        whereAnItemCanBegin();
        inAnItem();
        inABlock();
        inAStatement();
        inAnExpr();
        behindAnIf();
        longRuns();
        treeOverflows();
        whatMayStand();
        functions();
        functionNames();
        variables();
        typeErrors();
        typesOf();
        spelling();
        completing();
        completingAtEdges();
    }

    private static void plansAndRuns() {
        whatCanBeRenamed();
        longRenames();
        renamesThatBindOtherwise();
        whatCanBeInlined();
        textsOfInlines();
        longInlines();
        whatCanBeMoved();
        roomForMoves();
        usesOfMoves();
        roomForUses();
        movesThatBindOtherwise();
        rowsOfChanges();
        firstReason();
        changesOfLines();
        values();
        calls();
        steps();
        manyCalls();
        freshRuns();
        firstAsked();
        takenOut();
        completionsAlone();
    }

    public static void main(String[] args) {
        face();
        newObject();
        argumentsOfAllCalls();
        whichExceptionIsFirst();
        refusedCallsChangeNothing();
        edits();
        readings();
        plansAndRuns();
        if (faults > 0) {
            System.out.println(faults + " faults");
            System.exit(1);
        }
    }
}
