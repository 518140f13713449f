import java.util.ArrayList;
import java.util.Arrays;
import java.util.HashMap;
import java.util.HashSet;
import java.util.List;
import java.util.Map;
import java.util.PriorityQueue;

/**
 * Compares the class with a plain model of the document, written apart from it: recursive reading, snapshots of
 * scopes, groups of types, a search for repairs. The runs are made by a fixed row of numbers, so they never differ.
 * An object is asked at most 512 calls, as the document says: what is asked of each one is drawn.
 */
public final class ModelTest {
    static final int NAME = 0, NUM = 1, USE = 2, FN = 3, LET = 4, IF = 5, ELSE = 6, RET = 7, YES = 8, NO = 9,
            END = 24, BAD = 23;
    static final String[] WORDS = {"use", "fn", "let", "if", "else", "ret", "yes", "no"};
    static final String[] SIGNS = {"(", ")", "{", "}", ",", ";", "=", "==", "<", "+", "-", "*", "!"};

    static final class Tok {
        int cls, line, col;
        String text;
        Tok(int cls, int line, int col, String text) {
            this.cls = cls;
            this.line = line;
            this.col = col;
            this.text = text;
        }
    }

    static final class Halt extends RuntimeException {
        Halt() {
            super(null, null, false, false);
        }
    }

    static final class Node {
        String what;
        int tok, last = -1;
        boolean closed, byEnd;
        List<Node> kids = new ArrayList<>();
        Node(String what, int tok) {
            this.what = what;
            this.tok = tok;
        }
    }

    /** The tokens of one file, with what each char is: -1 blank, -2 comment, else a token. */
    static final class Lexed {
        List<Tok> toks = new ArrayList<>();
        int[][] owner = new int[8][];
        boolean[] endsIn = new boolean[8];

        Lexed(String[] lines) {
            boolean in = false;
            for (int l = 0; l < 8; l++) {
                String s = lines[l];
                owner[l] = new int[s.length()];
                int i = 0;
                while (i < s.length()) {
                    if (in) {
                        int e = s.indexOf("*/", i);
                        int to = e < 0 ? s.length() : e + 2;
                        Arrays.fill(owner[l], i, to, -2);
                        in = e < 0;
                        i = to;
                    } else if (s.startsWith("/*", i)) {
                        int e = s.indexOf("*/", i + 2);
                        int to = e < 0 ? s.length() : e + 2;
                        Arrays.fill(owner[l], i, to, -2);
                        in = e < 0;
                        i = to;
                    } else if (s.charAt(i) == ' ') {
                        owner[l][i++] = -1;
                    } else {
                        int j = i;
                        while (j < s.length() && s.charAt(j) >= 'a' && s.charAt(j) <= 'z') {
                            j++;
                        }
                        int cls = NAME;
                        if (j > i) {
                            cls = Math.max(0, Arrays.asList(WORDS).indexOf(s.substring(i, j)) + 2);
                            cls = cls == 1 ? NAME : cls;
                        } else {
                            while (j < s.length() && s.charAt(j) >= '0' && s.charAt(j) <= '9') {
                                j++;
                            }
                            if (j > i) {
                                cls = j - i > 3 ? BAD : NUM;
                            } else {
                                j = i + (s.startsWith("==", i) ? 2 : 1);
                                int k = Arrays.asList(SIGNS).indexOf(s.substring(i, j));
                                cls = k < 0 ? BAD : 10 + k;
                            }
                        }
                        Arrays.fill(owner[l], i, j, toks.size());
                        toks.add(new Tok(cls, l, i, s.substring(i, j)));
                        i = j;
                    }
                }
                endsIn[l] = in;
            }
        }
    }

    static final class Parse {
        int[] cls;
        int pos;
        List<int[]> errors = new ArrayList<>();
        List<Node> items = new ArrayList<>();

        Parse(int[] cls) {
            this.cls = cls;
            while (at() != END) {
                if (at() == USE) {
                    int first = pos;
                    try {
                        pos++;
                        need(NAME);
                        need(15);
                        items.add(new Node("use", first + 1));
                    } catch (Halt h) {
                        wrong(-1, -1);
                        skipItem();
                    }
                } else if (at() == FN) {
                    Node fn = new Node("fn", pos + 1);
                    boolean good = true;
                    try {
                        header(fn);
                    } catch (Halt h) {
                        wrong(-1, -1);
                        skipItem();
                        good = false;
                    }
                    if (good) {
                        items.add(fn);
                        fn.kids.add(block());
                    }
                } else {
                    wrong(-1, -1);
                    skipItem();
                }
            }
        }

        int at() {
            return at(0);
        }

        int at(int d) {
            return pos + d < cls.length ? cls[pos + d] : END;
        }

        void need(int c) {
            if (at() != c) {
                throw new Halt();
            }
            pos++;
        }

        void wrong(int a, int b) {
            errors.add(new int[] {pos, a, b});
        }

        void skipItem() {
            while (at() != FN && at() != USE && at() != END) {
                pos++;
            }
        }

        void header(Node fn) {
            pos++;
            need(NAME);
            need(10);
            if (at() == NAME) {
                fn.kids.add(new Node("param", pos));
                pos++;
                while (at() == 14) {
                    pos++;
                    int p = pos;
                    need(NAME);
                    fn.kids.add(new Node("param", p));
                }
            }
            need(11);
            if (at() != 12) {
                throw new Halt();
            }
        }

        Node block() {
            Node b = new Node("block", pos);
            pos++;
            while (true) {
                if (at() == 13) {
                    b.closed = true;
                    b.last = pos;
                    pos++;
                    return b;
                }
                if (at() == FN || at() == USE || at() == END) {
                    wrong(-1, -1);
                    b.byEnd = at() == END;
                    return b;
                }
                b.kids.add(statement());
            }
        }

        void skip() {
            while (true) {
                int c = at();
                if (c == 15) {
                    pos++;
                    return;
                }
                if (c == 12 || c == 13 || c == FN || c == USE || c == END) {
                    return;
                }
                pos++;
            }
        }

        Node statement() {
            int first = pos;
            Node n;
            try {
                n = head();
            } catch (Halt h) {
                int[] e = {pos, first, 0};
                errors.add(e);
                skip();
                e[2] = pos - 1;
                return new Node("broken", first);
            }
            if (n.what.equals("if")) {
                n.kids.add(block());
                if (at() == ELSE) {
                    pos++;
                    if (at() == 12) {
                        n.kids.add(block());
                    } else {
                        wrong(-1, -1);
                        skip();
                    }
                }
            }
            return n;
        }

        Node head() {
            Node n;
            int c = at();
            if (c == 12) {
                return block();
            } else if (c == LET) {
                n = new Node("let", pos + 1);
                pos++;
                need(NAME);
                need(16);
                n.kids.add(expr());
                n.last = pos;
                need(15);
            } else if (c == NAME && at(1) == 10) {
                n = new Node("call", pos);
                calling(n);
                need(15);
            } else if (c == NAME) {
                n = new Node("set", pos);
                pos++;
                need(16);
                n.kids.add(expr());
                need(15);
            } else if (c == RET) {
                n = new Node("ret", pos);
                pos++;
                n.kids.add(expr());
                need(15);
            } else if (c == IF) {
                n = new Node("if", pos);
                pos++;
                n.kids.add(expr());
                if (at() != 12) {
                    throw new Halt();
                }
            } else {
                throw new Halt();
            }
            return n;
        }

        void calling(Node n) {
            pos += 2;
            if (at() != 11) {
                n.kids.add(expr());
                while (at() == 14) {
                    pos++;
                    n.kids.add(expr());
                }
            }
            need(11);
        }

        Node two(String what, int tok, Node a, Node b) {
            Node n = new Node(what, tok);
            n.kids.add(a);
            n.kids.add(b);
            return n;
        }

        Node expr() {
            Node a = sum();
            if (at() == 17 || at() == 18) {
                int op = pos++;
                return two("op", op, a, sum());
            }
            return a;
        }

        Node sum() {
            Node a = product();
            while (at() == 19 || at() == 20) {
                int op = pos++;
                a = two("op", op, a, product());
            }
            return a;
        }

        Node product() {
            Node a = unit();
            while (at() == 21) {
                int op = pos++;
                a = two("op", op, a, unit());
            }
            return a;
        }

        Node unit() {
            if (at() == 22) {
                Node n = new Node("not", pos);
                pos++;
                n.kids.add(plain());
                return n;
            }
            return plain();
        }

        Node plain() {
            int c = at();
            if (c == NAME && at(1) == 10) {
                Node n = new Node("call", pos);
                calling(n);
                return n;
            }
            if (c == NAME || c == NUM || c == YES || c == NO) {
                return new Node("leaf", pos++);
            }
            if (c == 10) {
                Node n = new Node("group", pos);
                pos++;
                n.kids.add(expr());
                need(11);
                return n;
            }
            throw new Halt();
        }
    }

    static int[] classes(List<Tok> toks) {
        int[] r = new int[toks.size()];
        for (int i = 0; i < r.length; i++) {
            r[i] = toks.get(i).cls;
        }
        return r;
    }

    /** All that is known of three files. Ids are 1000 times the file, and the token. */
    static final class World {
        Lexed[] lex = new Lexed[3];
        Parse[] parse = new Parse[3];
        Map<Integer, Integer> bound = new HashMap<>();
        Map<Integer, List<Integer>> scopeAt = new HashMap<>();
        Map<Integer, Node> fns = new HashMap<>();
        Map<Integer, Node> lets = new HashMap<>();
        List<Integer> typeErrors = new ArrayList<>();
        Map<Integer, Integer> groupOf = new HashMap<>();
        Map<Integer, Integer> kindOf = new HashMap<>();
        int fresh = 1000000;

        World(String[][] lines) {
            for (int f = 0; f < 3; f++) {
                lex[f] = new Lexed(lines[f]);
                parse[f] = new Parse(classes(lex[f].toks));
                for (Node n : parse[f].items) {
                    if (n.what.equals("fn")) {
                        fns.put(1000 * f + n.tok, n);
                    }
                }
            }
            for (int f = 0; f < 3; f++) {
                for (Node n : parse[f].items) {
                    if (n.what.equals("fn")) {
                        bindFn(f, n);
                    }
                }
            }
            for (int f = 0; f < 3; f++) {
                for (Node n : parse[f].items) {
                    if (n.what.equals("fn")) {
                        typeBlock(f, n.kids.get(n.kids.size() - 1), 1000 * f + n.tok);
                    }
                }
            }
        }

        String text(int id) {
            return lex[id / 1000].toks.get(id % 1000).text;
        }

        List<Integer> usedBy(int f) {
            List<Integer> r = new ArrayList<>();
            for (Node n : parse[f].items) {
                if (n.what.equals("use")) {
                    int u = Arrays.asList("a", "b", "c").indexOf(text(1000 * f + n.tok));
                    if (u >= 0) {
                        r.add(u);
                    }
                }
            }
            return r;
        }

        int function(int f, String name) {
            List<Integer> where = new ArrayList<>();
            where.add(f);
            where.addAll(usedBy(f));
            for (int g : where) {
                for (Node n : parse[g].items) {
                    if (n.what.equals("fn") && text(1000 * g + n.tok).equals(name)) {
                        return 1000 * g + n.tok;
                    }
                }
            }
            return -1;
        }

        void bindFn(int f, Node fn) {
            bound.put(1000 * f + fn.tok, 1000 * f + fn.tok);
            List<Integer> params = new ArrayList<>();
            for (Node k : fn.kids) {
                if (k.what.equals("param")) {
                    params.add(1000 * f + k.tok);
                    bound.put(1000 * f + k.tok, 1000 * f + k.tok);
                }
            }
            bindBlock(f, fn.kids.get(fn.kids.size() - 1), params);
        }

        void bindBlock(int f, Node block, List<Integer> around) {
            List<Integer> mine = new ArrayList<>(around);
            for (Node s : block.kids) {
                bindStatement(f, s, mine);
                if (s.what.equals("let")) {
                    int id = 1000 * f + s.tok;
                    bound.put(id, id);
                    lets.put(id, s);
                    mine.add(0, id);
                }
            }
        }

        void bindStatement(int f, Node s, List<Integer> scope) {
            if (s.what.equals("block")) {
                bindBlock(f, s, scope);
                return;
            }
            if (s.what.equals("set")) {
                bindName(f, s.tok, scope);
            }
            if (s.what.equals("call")) {
                bindExpr(f, s, scope);
                return;
            }
            for (Node k : s.kids) {
                if (k.what.equals("block")) {
                    bindBlock(f, k, scope);
                } else {
                    bindExpr(f, k, scope);
                }
            }
        }

        void bindName(int f, int tok, List<Integer> scope) {
            int id = 1000 * f + tok;
            scopeAt.put(id, new ArrayList<>(scope));
            int found = look(text(id), scope);
            if (found >= 0) {
                bound.put(id, found);
            }
        }

        int look(String name, List<Integer> scope) {
            for (int d : scope) {
                if (text(d).equals(name)) {
                    return d;
                }
            }
            return -1;
        }

        void bindExpr(int f, Node e, List<Integer> scope) {
            if (e.what.equals("leaf") && lex[f].toks.get(e.tok).cls == NAME) {
                bindName(f, e.tok, scope);
            }
            if (e.what.equals("call")) {
                int g = function(f, text(1000 * f + e.tok));
                if (g >= 0) {
                    bound.put(1000 * f + e.tok, g);
                }
            }
            for (Node k : e.kids) {
                bindExpr(f, k, scope);
            }
        }

        int group(int thing) {
            return groupOf.getOrDefault(thing, thing);
        }

        int type(int thing) {
            return kindOf.getOrDefault(group(thing), 0);
        }

        int thing(int type) {
            fresh++;
            groupOf.put(fresh, fresh);
            if (type != 0) {
                kindOf.put(fresh, type);
            }
            return fresh;
        }

        void alike(int a, int b, int first) {
            int ta = type(a);
            int tb = type(b);
            if (ta != 0 && tb != 0 && ta != tb) {
                typeErrors.add(first);
                return;
            }
            int ga = group(a);
            int gb = group(b);
            groupOf.putIfAbsent(a, a);
            groupOf.putIfAbsent(b, b);
            for (Map.Entry<Integer, Integer> e : groupOf.entrySet()) {
                if (e.getValue() == gb) {
                    e.setValue(ga);
                }
            }
            if (tb != 0) {
                kindOf.put(ga, tb);
            }
        }

        int thingAt(int id) {
            return bound.getOrDefault(id, id);
        }

        int first(int f, Node e) {
            return e.what.equals("op") ? first(f, e.kids.get(0)) : 1000 * f + e.tok;
        }

        int typeExpr(int f, Node e) {
            int id = 1000 * f + e.tok;
            int cls = lex[f].toks.get(e.tok).cls;
            switch (e.what) {
                case "leaf":
                    return cls == NUM ? thing(1) : cls == NAME ? thingAt(id) : thing(2);
                case "group":
                    return typeExpr(f, e.kids.get(0));
                case "not": {
                    int t = typeExpr(f, e.kids.get(0));
                    alike(t, thing(2), first(f, e.kids.get(0)));
                    return thing(2);
                }
                case "op": {
                    Node left = e.kids.get(0);
                    Node right = e.kids.get(1);
                    int a = typeExpr(f, left);
                    int b = typeExpr(f, right);
                    if (cls == 17) {
                        alike(b, a, first(f, right));
                        return thing(2);
                    }
                    alike(a, thing(1), first(f, left));
                    alike(b, thing(1), first(f, right));
                    return thing(cls == 18 ? 2 : 1);
                }
                default: {
                    List<Integer> given = new ArrayList<>();
                    for (Node k : e.kids) {
                        given.add(typeExpr(f, k));
                    }
                    Integer target = bound.get(id);
                    if (target != null) {
                        Node fn = fns.get(target);
                        int params = fn.kids.size() - 1;
                        if (params != given.size()) {
                            typeErrors.add(id);
                        } else {
                            for (int i = 0; i < params; i++) {
                                alike(given.get(i), 1000 * (target / 1000) + fn.kids.get(i).tok,
                                        first(f, e.kids.get(i)));
                            }
                        }
                    }
                    return thingAt(id);
                }
            }
        }

        void typeBlock(int f, Node block, int fn) {
            for (Node s : block.kids) {
                int id = 1000 * f + s.tok;
                switch (s.what) {
                    case "block":
                        typeBlock(f, s, fn);
                        break;
                    case "let":
                    case "set":
                        alike(typeExpr(f, s.kids.get(0)), thingAt(id), first(f, s.kids.get(0)));
                        break;
                    case "ret":
                        alike(typeExpr(f, s.kids.get(0)), fn, first(f, s.kids.get(0)));
                        break;
                    case "if":
                        alike(typeExpr(f, s.kids.get(0)), thing(2), first(f, s.kids.get(0)));
                        for (int i = 1; i < s.kids.size(); i++) {
                            typeBlock(f, s.kids.get(i), fn);
                        }
                        break;
                    case "call":
                        typeExpr(f, s);
                        break;
                    default:
                }
            }
        }

        int typeOf(int id) {
            return bound.containsKey(id) ? type(bound.get(id)) : 0;
        }

        long print(int f) {
            long[] p = {7};
            for (Node n : parse[f].items) {
                if (n.what.equals("use")) {
                    put(p, 1);
                } else {
                    put(p, 2);
                    put(p, n.kids.size() - 1);
                    printBlock(f, n.kids.get(n.kids.size() - 1), p);
                }
            }
            return p[0];
        }

        void put(long[] p, int n) {
            p[0] = p[0] * 31 + n;
        }

        void printBlock(int f, Node b, long[] p) {
            put(p, 3);
            for (Node s : b.kids) {
                switch (s.what) {
                    case "block":
                        printBlock(f, s, p);
                        break;
                    case "let":
                        put(p, 5);
                        printExpr(f, s.kids.get(0), p);
                        break;
                    case "set":
                        put(p, 6);
                        printExpr(f, s.kids.get(0), p);
                        break;
                    case "call":
                        put(p, 7);
                        for (Node k : s.kids) {
                            printExpr(f, k, p);
                        }
                        put(p, 8);
                        break;
                    case "ret":
                        put(p, 9);
                        printExpr(f, s.kids.get(0), p);
                        break;
                    case "if":
                        put(p, 10);
                        printExpr(f, s.kids.get(0), p);
                        printBlock(f, s.kids.get(1), p);
                        if (s.kids.size() > 2) {
                            put(p, 11);
                            printBlock(f, s.kids.get(2), p);
                        }
                        break;
                    default:
                        put(p, 12);
                }
            }
            put(p, 4);
        }

        void printExpr(int f, Node e, long[] p) {
            switch (e.what) {
                case "leaf":
                    put(p, 13);
                    break;
                case "call":
                    put(p, 14);
                    for (Node k : e.kids) {
                        printExpr(f, k, p);
                    }
                    put(p, 15);
                    break;
                case "not":
                    put(p, 16);
                    printExpr(f, e.kids.get(0), p);
                    break;
                case "group":
                    printExpr(f, e.kids.get(0), p);
                    break;
                default:
                    put(p, lex[f].toks.get(e.tok).cls);
                    printExpr(f, e.kids.get(0), p);
                    printExpr(f, e.kids.get(1), p);
            }
        }

        List<Integer> functionsOf(int f) {
            List<Integer> r = new ArrayList<>();
            for (Node n : parse[f].items) {
                if (n.what.equals("fn")) {
                    r.add(1000 * f + n.tok);
                }
            }
            return r;
        }
    }

    static final class Ended extends RuntimeException {
        long value;
        Ended(long value) {
            super(null, null, false, false);
            this.value = value;
        }
    }

    static final class Machine {
        World w;
        int steps, running;
        Machine(World w) {
            this.w = w;
        }

        long call(int fn, long[] given) {
            Node n = w.fns.get(fn);
            Map<Integer, Long> vars = new HashMap<>();
            for (int i = 0; i + 1 < n.kids.size(); i++) {
                vars.put(1000 * (fn / 1000) + n.kids.get(i).tok, i < given.length ? given[i] : 0L);
            }
            running++;
            long r = 0;
            try {
                block(fn / 1000, n.kids.get(n.kids.size() - 1), vars);
            } catch (Ended e) {
                r = e.value;
            }
            running--;
            return r;
        }

        void block(int f, Node b, Map<Integer, Long> vars) {
            for (Node s : b.kids) {
                if (s.what.equals("broken")) {
                    continue;
                }
                if (steps >= 200) {
                    throw new Ended(0);
                }
                steps++;
                switch (s.what) {
                    case "block":
                        block(f, s, vars);
                        break;
                    case "let":
                    case "set": {
                        long v = expr(f, s.kids.get(0), vars);
                        Integer d = w.bound.get(1000 * f + s.tok);
                        if (d != null) {
                            vars.put(d, v);
                        }
                        break;
                    }
                    case "call":
                        expr(f, s, vars);
                        break;
                    case "ret":
                        throw new Ended(expr(f, s.kids.get(0), vars));
                    default:
                        if (expr(f, s.kids.get(0), vars) != 0) {
                            block(f, s.kids.get(1), vars);
                        } else if (s.kids.size() > 2) {
                            block(f, s.kids.get(2), vars);
                        }
                }
            }
        }

        long expr(int f, Node e, Map<Integer, Long> vars) {
            Tok t = w.lex[f].toks.get(e.tok);
            Integer d = w.bound.get(1000 * f + e.tok);
            switch (e.what) {
                case "leaf":
                    return t.cls == NUM ? Long.parseLong(t.text) : t.cls == YES ? 1 : t.cls == NO ? 0
                            : d == null ? 0 : vars.getOrDefault(d, 0L);
                case "group":
                    return expr(f, e.kids.get(0), vars);
                case "not":
                    return expr(f, e.kids.get(0), vars) == 0 ? 1 : 0;
                case "call": {
                    long[] given = new long[e.kids.size()];
                    for (int i = 0; i < given.length; i++) {
                        given[i] = expr(f, e.kids.get(i), vars);
                    }
                    if (d == null || steps >= 200 || running >= 4) {
                        return 0;
                    }
                    steps++;
                    return call(d, given);
                }
                default: {
                    long a = expr(f, e.kids.get(0), vars);
                    long b = expr(f, e.kids.get(1), vars);
                    return t.cls == 17 ? (a == b ? 1 : 0) : t.cls == 18 ? (a < b ? 1 : 0) : t.cls == 19 ? a + b
                            : t.cls == 20 ? a - b : a * b;
                }
            }
        }
    }

    /** The least edits, by a search over what is still to be derived and how much of the run was read. */
    static final class Fixer {
        static final Map<String, String[]> RULES = new HashMap<>();
        static final Map<String, Integer> LEAST = new HashMap<>();
        static {
            RULES.put("S", new String[] {"l n = E ;", "n = E ;", "n ( X ) ;", "r E ;"});
            RULES.put("X", new String[] {"", "E Y"});
            RULES.put("Y", new String[] {"", ", E Y"});
            RULES.put("E", new String[] {"M", "M c M"});
            RULES.put("M", new String[] {"P N"});
            RULES.put("N", new String[] {"", "+ P N"});
            RULES.put("P", new String[] {"U Q"});
            RULES.put("Q", new String[] {"", "* U Q"});
            RULES.put("U", new String[] {"A", "! A"});
            RULES.put("A", new String[] {"v", "n", "n ( X )", "( E )"});
            LEAST.put("S", 3);
            for (String s : new String[] {"E", "M", "P", "U", "A"}) {
                LEAST.put(s, 1);
            }
            for (String s : new String[] {"X", "Y", "N", "Q"}) {
                LEAST.put(s, 0);
            }
        }

        static String sign(int cls) {
            switch (cls) {
                case NAME: return "n";
                case NUM: case YES: case NO: return "v";
                case LET: return "l";
                case RET: return "r";
                case 10: return "(";
                case 11: return ")";
                case 14: return ",";
                case 15: return ";";
                case 16: return "=";
                case 17: case 18: return "c";
                case 19: case 20: return "+";
                case 21: return "*";
                case 22: return "!";
                default: return "?";
            }
        }

        static int bound(String stack) {
            int n = 0;
            for (String s : stack.split(" ")) {
                n += s.isEmpty() ? 0 : LEAST.getOrDefault(s, 1);
            }
            return n;
        }

        static int least(int[] run) {
            PriorityQueue<Object[]> queue = new PriorityQueue<>((a, b) -> (Integer) a[0] - (Integer) b[0]);
            Map<String, Integer> best = new HashMap<>();
            HashSet<String> done = new HashSet<>();
            push(queue, best, 0, 0, "S", run.length);
            while (!queue.isEmpty()) {
                Object[] top = queue.poll();
                int cost = (Integer) top[1];
                int pos = (Integer) top[2];
                String stack = (String) top[3];
                if (!done.add(pos + ":" + stack)) {
                    continue;
                }
                if (stack.isEmpty() && pos == run.length) {
                    return cost;
                }
                if (pos < run.length) {
                    push(queue, best, cost + 1, pos + 1, stack, run.length);
                }
                if (stack.isEmpty()) {
                    continue;
                }
                int cut = stack.indexOf(' ');
                String head = cut < 0 ? stack : stack.substring(0, cut);
                String rest = cut < 0 ? "" : stack.substring(cut + 1);
                if (RULES.containsKey(head)) {
                    for (String r : RULES.get(head)) {
                        String next = r.isEmpty() ? rest : rest.isEmpty() ? r : r + " " + rest;
                        push(queue, best, cost, pos, next, run.length);
                    }
                } else {
                    push(queue, best, cost + 1, pos, rest, run.length);
                    if (pos < run.length && sign(run[pos]).equals(head)) {
                        push(queue, best, cost, pos + 1, rest, run.length);
                    }
                }
            }
            return -2;
        }

        static void push(PriorityQueue<Object[]> queue, Map<String, Integer> best, int cost, int pos, String stack,
                int size) {
            int guess = cost + Math.max(0, bound(stack) - (size - pos));
            String key = pos + ":" + stack;
            if (guess <= 14 && best.getOrDefault(key, 99) > cost) {
                best.put(key, cost);
                queue.add(new Object[] {guess, cost, pos, stack});
            }
        }
    }

    /** A line of a plan's files; it keeps its self when it is moved or rewritten. */
    static final class Row {
        String text;
        Row(String text) {
            this.text = text;
        }
    }

    static final class Change {
        char kind;
        int file, tok, other;
        String name = "";
    }

    static final class Stop extends RuntimeException {
        int why;
        Stop(int why) {
            super(null, null, false, false);
            this.why = why;
        }
    }

    static World worldOf(List<List<Row>> files) {
        return new World(textOf(files));
    }

    static String[][] textOf(List<List<Row>> files) {
        String[][] r = new String[3][8];
        for (int f = 0; f < 3; f++) {
            for (int l = 0; l < 8; l++) {
                r[f][l] = files.get(f).get(l).text;
            }
        }
        return r;
    }

    /** Does the changes; the files after them, or a Stop with the reason. */
    static String[][] carry(String[][] lines, List<Change> plan) {
        List<List<Row>> files = new ArrayList<>();
        for (int f = 0; f < 3; f++) {
            List<Row> rows = new ArrayList<>();
            for (String s : lines[f]) {
                rows.add(new Row(s));
            }
            files.add(rows);
        }
        for (Change c : plan) {
            World w = worldOf(files);
            Map<Row, int[]> before = new HashMap<>();
            List<Object[]> old = new ArrayList<>();
            Map<Integer, Object[]> places = new HashMap<>();
            for (int f = 0; f < 3; f++) {
                int[] nth = new int[8];
                for (int t = 0; t < w.lex[f].toks.size(); t++) {
                    int l = w.lex[f].toks.get(t).line;
                    places.put(1000 * f + t, new Object[] {files.get(f).get(l), nth[l]++});
                }
            }
            if (c.tok >= w.lex[c.file].toks.size()) {
                throw new Stop(2);
            }
            if (c.kind == 'r') {
                rename(files, w, c);
            } else if (c.kind == 'i') {
                inline(files, w, c);
            } else {
                move(files, w, c, places);
            }
            if (c.kind != 'i') {
                World v = worldOf(files);
                Map<Integer, Integer> to = becomes(files, v, places);
                for (int id : places.keySet()) {
                    if (w.lex[id / 1000].toks.get(id % 1000).cls != NAME) {
                        continue;
                    }
                    Integer a = w.bound.get(id);
                    Integer b = v.bound.get(to.get(id));
                    if ((a == null) != (b == null) || a != null && !to.get(a).equals(b)) {
                        throw new Stop(4);
                    }
                }
            }
        }
        return textOf(files);
    }

    static Map<Integer, Integer> becomes(List<List<Row>> files, World v, Map<Integer, Object[]> places) {
        Map<Integer, Integer> to = new HashMap<>();
        for (int f = 0; f < 3; f++) {
            int[] nth = new int[8];
            for (int t = 0; t < v.lex[f].toks.size(); t++) {
                int l = v.lex[f].toks.get(t).line;
                Row row = files.get(f).get(l);
                int n = nth[l]++;
                for (Map.Entry<Integer, Object[]> e : places.entrySet()) {
                    if (e.getValue()[0] == row && (Integer) e.getValue()[1] == n) {
                        to.put(e.getKey(), 1000 * f + t);
                    }
                }
            }
        }
        return to;
    }

    static void rename(List<List<Row>> files, World w, Change c) {
        int id = 1000 * c.file + c.tok;
        if (w.bound.getOrDefault(id, -1) != id || c.name.isEmpty() || Arrays.asList(WORDS).contains(c.name)) {
            throw new Stop(2);
        }
        for (int f = 0; f < 3; f++) {
            for (int t = w.lex[f].toks.size() - 1; t >= 0; t--) {
                if (w.bound.getOrDefault(1000 * f + t, -1) == id) {
                    Tok k = w.lex[f].toks.get(t);
                    Row row = files.get(f).get(k.line);
                    row.text = row.text.substring(0, k.col) + c.name + row.text.substring(k.col + k.text.length());
                }
            }
        }
        tooLong(files);
    }

    static void tooLong(List<List<Row>> files) {
        for (List<Row> rows : files) {
            for (Row r : rows) {
                if (r.text.length() > 24) {
                    throw new Stop(3);
                }
            }
        }
    }

    static void inline(List<List<Row>> files, World w, Change c) {
        int id = 1000 * c.file + c.tok;
        int base = 1000 * c.file;
        Node let = w.lets.get(id);
        List<Tok> toks = w.lex[c.file].toks;
        if (let == null || toks.get(c.tok - 1).line != toks.get(let.last).line) {
            throw new Stop(2);
        }
        List<Node> sets = new ArrayList<>();
        for (Node n : w.parse[c.file].items) {
            collectSets(n, sets);
        }
        for (int t = c.tok + 2; t < let.last; t++) {
            if (toks.get(t).cls == NAME && toks.get(t + 1).cls == 10) {
                throw new Stop(2);
            }
        }
        for (Node s : sets) {
            Integer b = w.bound.get(base + s.tok);
            if (b != null && b == id) {
                throw new Stop(2);
            }
            for (int t = c.tok + 2; t < let.last; t++) {
                if (b != null && b.equals(w.bound.get(base + t))) {
                    throw new Stop(2);
                }
            }
        }
        String text = "";
        for (int t = c.tok + 2; t < let.last; t++) {
            boolean gap = t > c.tok + 2 && toks.get(t - 1).cls <= 9 && toks.get(t).cls <= 9;
            text += (gap ? " " : "") + toks.get(t).text;
        }
        text = let.last - c.tok - 2 > 1 ? "(" + text + ")" : text;
        for (int t = 0; t < toks.size(); t++) {
            if (t != c.tok && w.bound.getOrDefault(base + t, -1) == id) {
                for (int e = c.tok + 2; e < let.last; e++) {
                    if (toks.get(e).cls == NAME) {
                        int there = w.look(toks.get(e).text, w.scopeAt.get(base + t));
                        if (there != w.bound.getOrDefault(base + e, -1)) {
                            throw new Stop(2);
                        }
                    }
                }
            }
        }
        for (int t = toks.size() - 1; t >= 0; t--) {
            Tok k = toks.get(t);
            Row row = files.get(c.file).get(k.line);
            if (t != c.tok && w.bound.getOrDefault(base + t, -1) == id) {
                row.text = row.text.substring(0, k.col) + text + row.text.substring(k.col + k.text.length());
            }
            if (t == c.tok - 1) {
                row.text = row.text.substring(0, k.col) + row.text.substring(toks.get(let.last).col + 1);
            }
        }
        tooLong(files);
    }

    static void collectSets(Node n, List<Node> sets) {
        if (n.what.equals("set")) {
            sets.add(n);
        }
        for (Node k : n.kids) {
            collectSets(k, sets);
        }
    }

    static void move(List<List<Row>> files, World w, Change c, Map<Integer, Object[]> places) {
        int id = 1000 * c.file + c.tok;
        Node fn = w.fns.get(id);
        if (fn == null) {
            throw new Stop(2);
        }
        Node block = fn.kids.get(fn.kids.size() - 1);
        if (!block.closed) {
            throw new Stop(2);
        }
        Lexed from = w.lex[c.file];
        Lexed to = w.lex[c.other];
        int top = from.toks.get(c.tok - 1).line;
        int bottom = from.toks.get(block.last).line;
        for (int t = 0; t < from.toks.size(); t++) {
            int l = from.toks.get(t).line;
            if (l >= top && l <= bottom && (t < c.tok - 1 || t > block.last)) {
                throw new Stop(2);
            }
        }
        int behind = to.toks.isEmpty() ? -1 : to.toks.get(to.toks.size() - 1).line;
        if (top > 0 && from.endsIn[top - 1] || from.endsIn[bottom] || behind >= 0 && to.endsIn[behind]) {
            throw new Stop(2);
        }
        List<Row> out = new ArrayList<>();
        for (int l = top; l <= bottom; l++) {
            out.add(files.get(c.file).remove(top));
            files.get(c.file).add(new Row(""));
        }
        files.get(c.other).addAll(behind + 1, out);
        cutDown(files.get(c.other));
        for (int i = 0; i < 3; i++) {
            for (int j = 0; j < 3; j++) {
                if (i == j) {
                    continue;
                }
                World v = worldOf(files);
                Map<Integer, Integer> now = becomes(files, v, places);
                boolean need = false;
                for (int t : places.keySet()) {
                    Integer b = w.bound.get(t);
                    List<Tok> toks = w.lex[t / 1000].toks;
                    boolean call = t % 1000 + 1 < toks.size() && toks.get(t % 1000 + 1).cls == 10;
                    if (b != null && call && w.fns.containsKey(b) && now.get(t) / 1000 == i
                            && now.get(b) / 1000 == j) {
                        need = true;
                    }
                }
                if (need && !v.usedBy(i).contains(j)) {
                    files.get(i).add(0, new Row("use " + "abc".charAt(j) + ";"));
                    cutDown(files.get(i));
                }
            }
        }
    }

    static void cutDown(List<Row> rows) {
        while (rows.size() > 8) {
            if (!rows.remove(8).text.isEmpty()) {
                throw new Stop(3);
            }
        }
    }

    static final String[] FRAGMENTS = {"fn f(x) {", "fn g(x, y) {", "fn h() {", "}", "let y = x + 1;",
        "let x = 2;", "ret x;", "ret y * 2;", "if x < 3 {", "} else {", "x = x - 1;", "ret f(x);",
        "let z = g(x, y);", "use a;", "use b;", "use c;", "ret x == y;", "f(1);", "/* ", " */", "let y = !no;",
        "ret f(g(x, 1));", "{", "let = x + ;"};

    static int faults;
    static java.util.Random dice = new java.util.Random(1);
    static final Map<Integer, Integer> REASONS = new HashMap<>();

    /** How many calls the object of this run has left. */
    static int left;

    static int roll(int n) {
        return dice.nextInt(n);
    }

    static boolean spend(int calls) {
        if (left < calls) {
            return false;
        }
        left -= calls;
        return true;
    }

    static void same(String what, long due, long got, String[][] lines) {
        if (due != got) {
            faults++;
            if (faults < 12) {
                System.out.println(what + ": due " + due + ", got " + got);
                for (int f = 0; f < 3; f++) {
                    System.out.println("  file " + f + ": " + Arrays.toString(lines[f]));
                }
            }
        }
    }

    static String word() {
        String[] pool = {"x", "y", "z", "f", "g", "h", "a", "b", "c", "xy", "x", "y", "f", "g", "let", "fo"};
        return pool[roll(pool.length - (roll(20) == 0 ? 0 : 2))];
    }

    static void expr(List<String> out, int deep) {
        int k = roll(deep > 2 ? 4 : 12);
        if (k < 3) {
            out.add(word());
        } else if (k < 4) {
            out.add(roll(4) == 0 ? "yes" : roll(3) == 0 ? "no" : "" + roll(roll(3) == 0 ? 2000 : 5));
        } else if (k < 6) {
            out.add(word());
            out.add("(");
            int n = roll(3);
            for (int i = 0; i < n; i++) {
                if (i > 0) {
                    out.add(",");
                }
                expr(out, deep + 1);
            }
            out.add(")");
        } else if (k < 7) {
            out.add("(");
            expr(out, deep + 1);
            out.add(")");
        } else if (k < 8) {
            out.add("!");
            expr(out, deep + 1);
        } else {
            expr(out, deep + 1);
            out.add(new String[] {"+", "-", "*", "<", "==", "+", "*"}[roll(7)]);
            expr(out, deep + 1);
        }
    }

    static void block(List<String> out, int deep) {
        out.add("{");
        int n = roll(5);
        for (int i = 0; i < n; i++) {
            int k = roll(deep > 2 ? 8 : 12);
            if (k < 3) {
                out.add("let");
                out.add(word());
                out.add("=");
                expr(out, 1);
                out.add(";");
            } else if (k < 4) {
                out.add(word());
                out.add("=");
                expr(out, 1);
                out.add(";");
            } else if (k < 5) {
                out.add(word());
                out.add("(");
                expr(out, 1);
                out.add(")");
                out.add(";");
            } else if (k < 8) {
                out.add("ret");
                expr(out, 1);
                out.add(";");
            } else if (k < 11) {
                out.add("if");
                expr(out, 1);
                block(out, deep + 1);
                if (roll(2) == 0) {
                    out.add("else");
                    block(out, deep + 1);
                }
            } else {
                block(out, deep + 1);
            }
        }
        out.add("}");
    }

    static String[] file(int breakage) {
        List<String> out = new ArrayList<>();
        int items = 1 + roll(4);
        for (int i = 0; i < items; i++) {
            if (roll(3) == 0) {
                out.addAll(Arrays.asList("use", roll(8) == 0 ? "x" : "abc".substring(roll(3)).substring(0, 1), ";"));
            } else {
                out.addAll(Arrays.asList("fn", roll(3) == 0 ? word() : "fgh".substring(roll(3)).substring(0, 1), "("));
                int n = roll(3);
                for (int p = 0; p < n; p++) {
                    if (p > 0) {
                        out.add(",");
                    }
                    out.add(word());
                }
                out.add(")");
                block(out, 0);
            }
        }
        String[] noise = {"use", "fn", "let", "if", "else", "ret", "yes", "no", "(", ")", "{", "}", ",", ";", "=",
            "==", "<", "+", "-", "*", "!", "?", "1234", "x", "f", "7", "/*", "*/", "/**/"};
        for (int i = 0; i < breakage && !out.isEmpty(); i++) {
            int at = roll(out.size());
            if (roll(2) == 0) {
                out.remove(at);
            } else {
                out.add(at, noise[roll(noise.length)]);
            }
        }
        return layOut(out, roll(4));
    }

    static String[] layOut(List<String> out, int loose) {
        String[] lines = new String[8];
        Arrays.fill(lines, "");
        int l = loose > 2 ? roll(3) : 0;
        for (String t : out) {
            String s = lines[l];
            boolean word = !s.isEmpty() && Character.isLetterOrDigit(s.charAt(s.length() - 1))
                    && Character.isLetterOrDigit(t.charAt(0));
            boolean glue = s.endsWith("=") && t.startsWith("=");
            String next = s + (word || glue || roll(12) < loose ? " " : "") + t;
            boolean wrap = next.length() > 24
                    || loose > 1 && !s.isEmpty() && roll(3) == 0 && (s.endsWith(";") || s.endsWith("}"));
            if (wrap) {
                l++;
                if (l > 7) {
                    break;
                }
                next = t;
            }
            lines[l] = next;
        }
        return lines;
    }

    static void setLine(Syntaxspan e, String[][] lines, int f, int l, String s) {
        if (!spend(s.length())) {
            return;
        }
        for (int i = 0; i < s.length(); i++) {
            same("insert", i + 1, e.insert(f, l, i, s.charAt(i)), lines);
        }
        lines[f][l] = s;
    }

    static int looked(boolean[] before, boolean[] after, int l) {
        int n = 1;
        while (before[l] != after[l] && l < 7) {
            l++;
            n++;
        }
        return n;
    }

    static void randomEdit(Syntaxspan e, String[][] lines, String[][] saved) {
        if (!spend(3)) {
            return;
        }
        int f = roll(3);
        int l = roll(8);
        String s = lines[f][l];
        boolean[] before = new Lexed(lines[f]).endsIn;
        int k = roll(12);
        if (k < 4) {
            int c = roll(s.length() + 1);
            char sign = "fx (){};=+*/ly 1,<!/*/*nfe\"~"
                    .charAt(roll(28));
            if (s.length() < 24) {
                lines[f][l] = s.substring(0, c) + sign + s.substring(c);
                same("insert", s.length() + 1, e.insert(f, l, c, sign), lines);
            } else {
                throwing("insert full", 2, lines, e.relexed() >= 0 ? tryInsert(e, f, l, c, sign) : -1);
                return;
            }
        } else if (k < 7 && !s.isEmpty()) {
            int c = roll(s.length());
            lines[f][l] = s.substring(0, c) + s.substring(c + 1);
            same("erase", s.charAt(c), e.erase(f, l, c), lines);
        } else if (k < 9) {
            int g = roll(24);
            if (s.length() + FRAGMENTS[g].length() > 24) {
                return;
            }
            lines[f][l] = s + FRAGMENTS[g];
            same("paste", lines[f][l].length(), e.paste(f, l, g), lines);
        } else if (k < 10) {
            lines[f][l] = "";
            same("clear", s.length(), e.clear(f, l), lines);
        } else {
            boolean save = roll(2) == 0;
            int n = 0;
            for (int i = 0; i < 8; i++) {
                n += lines[f][i].equals(saved[f][i]) ? 0 : 1;
            }
            int was = e.relexed();
            same(save ? "save" : "back", n, save ? e.save(f) : e.back(f), lines);
            if (save) {
                saved[f] = lines[f].clone();
            } else {
                lines[f] = saved[f].clone();
            }
            same("relexed stays", was, e.relexed(), lines);
            return;
        }
        same("relexed", looked(before, new Lexed(lines[f]).endsIn, l), e.relexed(), lines);
    }

    static int tryInsert(Syntaxspan e, int f, int l, int c, char sign) {
        try {
            e.insert(f, l, c, sign);
            return 0;
        } catch (IllegalStateException x) {
            return 2;
        }
    }

    static void throwing(String what, int due, String[][] lines, int got) {
        same(what, due, got, lines);
    }

    static int told(int id) {
        return id;
    }

    static void compareTokens(Syntaxspan e, String[][] lines, World w, int f) {
        List<Tok> toks = w.lex[f].toks;
        if (spend(1)) {
            same("tokens", toks.size(), e.tokens(f), lines);
        }
        int[] partner = partners(toks);
        for (int i = 0; i < 6 && !toks.isEmpty() && spend(3); i++) {
            int t = roll(toks.size());
            Tok k = toks.get(t);
            int due = 10000 * k.cls + 1000 * k.line + k.col;
            same("token " + f + " " + t, due, e.token(f, t), lines);
            same("partner", partner[t], e.partner(f, t), lines);
            if (roll(6) == 0) {
                same("tokenAnew", due, e.tokenAnew(f, t), lines);
            }
        }
        for (int i = 0; i < 6 && spend(4); i++) {
            int l = roll(8);
            int fold = -1;
            for (int t = toks.size() - 1; t >= 0; t--) {
                if (toks.get(t).line == l && toks.get(t).cls == 12 && partner[t] >= 0
                        && toks.get(partner[t]).line > l) {
                    fold = toks.get(partner[t]).line;
                }
            }
            same("fold", fold, e.fold(f, l), lines);
            int size = lines[f][l].length();
            same("length", size, e.length(f, l), lines);
            if (size > 0) {
                int c = roll(size);
                int o = w.lex[f].owner[l][c];
                int due = o == -1 ? 0 : o == -2 ? 1 : colour(w, f, o);
                same("colour", due, e.colour(f, l, c), lines);
                same("charAt", lines[f][l].charAt(c), e.charAt(f, l, c), lines);
            }
        }
    }

    static int[] partners(List<Tok> toks) {
        int[] partner = new int[toks.size()];
        Arrays.fill(partner, -1);
        List<Integer> open = new ArrayList<>();
        for (int t = 0; t < toks.size(); t++) {
            Tok k = toks.get(t);
            if (k.cls == 10 || k.cls == 12) {
                open.add(t);
            }
            int last = open.isEmpty() ? -1 : open.get(open.size() - 1);
            if ((k.cls == 11 || k.cls == 13) && last >= 0 && toks.get(last).cls == k.cls - 1) {
                partner[t] = last;
                partner[last] = t;
                open.remove(open.size() - 1);
            }
        }
        return partner;
    }

    static int colour(World w, int f, int t) {
        int cls = w.lex[f].toks.get(t).cls;
        if (cls == NAME) {
            Integer b = w.bound.get(1000 * f + t);
            return b == null ? 5 : w.fns.containsKey(b) ? 3 : 4;
        }
        return cls == NUM ? 6 : cls == BAD ? 8 : cls < 10 ? 2 : 7;
    }

    static int may(World w, int f, int place) {
        int[] ahead = Arrays.copyOf(classes(w.lex[f].toks), place + 1);
        int set = 0;
        for (int c = 0; c <= 24; c++) {
            ahead[place] = c;
            Parse p = new Parse(c == END ? Arrays.copyOf(ahead, place) : ahead);
            boolean good = true;
            for (int[] er : p.errors) {
                good &= er[0] != place;
            }
            set |= good ? 1 << c : 0;
        }
        return set;
    }

    static List<Integer> completions(World w, int f, int place, String name) {
        List<Integer> all = new ArrayList<>();
        if ((may(w, f, place) & 1) == 0) {
            return all;
        }
        Parse p = new Parse(Arrays.copyOf(classes(w.lex[f].toks), place));
        Node fn = p.items.isEmpty() ? null : p.items.get(p.items.size() - 1);
        HashSet<String> seen = new HashSet<>();
        if (fn != null && fn.what.equals("fn") && fn.kids.get(fn.kids.size() - 1).byEnd) {
            List<Integer> locals = new ArrayList<>();
            Node block = fn.kids.get(fn.kids.size() - 1);
            while (block != null) {
                Node deeper = null;
                for (Node s : block.kids) {
                    if (s.what.equals("let")) {
                        locals.add(0, s.tok);
                    }
                    if (s.what.equals("block") && !s.closed) {
                        deeper = s;
                    }
                    if (s.what.equals("if")) {
                        for (int i = 1; i < s.kids.size(); i++) {
                            deeper = s.kids.get(i).closed ? deeper : s.kids.get(i);
                        }
                    }
                }
                block = deeper;
            }
            for (Node k : fn.kids) {
                if (k.what.equals("param")) {
                    locals.add(k.tok);
                }
            }
            for (int t : locals) {
                if (seen.add(w.text(1000 * f + t))) {
                    all.add(1000 * f + t);
                }
            }
        }
        seen.clear();
        List<Integer> where = new ArrayList<>();
        where.add(f);
        where.addAll(w.usedBy(f));
        for (int g : where) {
            for (int id : w.functionsOf(g)) {
                if (seen.add(w.text(id))) {
                    all.add(id);
                }
            }
        }
        all.removeIf(id -> !w.text(id).startsWith(name));
        return all;
    }

    static void compareTrees(Syntaxspan e, String[][] lines, World w, int f, String name) {
        Parse p = w.parse[f];
        if (!spend(3)) {
            return;
        }
        int errors = e.errors(f);
        same("errors", p.errors.size(), errors, lines);
        same("tree " + f, w.print(f), e.tree(f), lines);
        for (int i = 0; i < Math.min(p.errors.size(), errors) && i < 4 && spend(2); i++) {
            int at = i < 3 ? i : roll(Math.min(p.errors.size(), errors));
            int[] er = p.errors.get(at);
            same("errorAt " + at, er[0], e.errorAt(f, at), lines);
            int due = -1;
            if (er[1] >= 0 && er[2] - er[1] < 10) {
                due = Fixer.least(Arrays.copyOfRange(p.cls, er[1], er[2] + 1));
            }
            same("repair " + at, due, e.repair(f, at), lines);
        }
        for (int i = 0; i < 2 && spend(4); i++) {
            int place = roll(p.cls.length + 1);
            same("may " + f + " " + place, may(w, f, place), e.may(f, place), lines);
            List<Integer> due = completions(w, f, place, name);
            same("completions " + f + " " + place + name, due.size(), e.completions(f, place), lines);
            for (int k = 0; k < 2; k++) {
                int which = roll(due.size() + 1);
                same("completionAt", which < due.size() ? due.get(which) : -1, e.completionAt(f, place, which), lines);
            }
        }
        List<Integer> fns = w.functionsOf(f);
        same("functions", fns.size(), e.functions(f), lines);
        for (int i = 0; i < fns.size() && spend(2); i++) {
            int id = fns.get(i);
            same("functionAt", 100 * (id % 1000) + w.fns.get(id).kids.size() - 1, e.functionAt(f, i), lines);
            int x = roll(7) - 2;
            int y = roll(5) == 0 ? Integer.MAX_VALUE - roll(3) : roll(4);
            same("run " + f + " " + i + " " + x + " " + y, new Machine(w).call(id, new long[] {x, y}),
                    e.run(f, i, x, y), lines);
        }
    }

    static void compareNames(Syntaxspan e, String[][] lines, World w) {
        for (int f = 0; f < 3; f++) {
            int size = w.lex[f].toks.size();
            for (int i = 0; i < 12 && size > 0 && spend(3); i++) {
                int named = nameToken(w, f, false);
                int t = named < 0 || roll(6) == 0 ? roll(size) : named;
                int id = 1000 * f + t;
                same("binding " + id, w.bound.getOrDefault(id, -1), e.binding(f, t), lines);
                same("typeOf " + id, w.typeOf(id), e.typeOf(f, t), lines);
                if (roll(6) == 0) {
                    same("bindingAnew " + id, w.bound.getOrDefault(id, -1), e.bindingAnew(f, t), lines);
                }
            }
        }
        if (!spend(5)) {
            return;
        }
        int errors = e.typeErrors();
        same("typeErrors", w.typeErrors.size(), errors, lines);
        for (int i = 0; i < Math.min(w.typeErrors.size(), errors) && i < 4; i++) {
            same("typeErrorAt " + i, w.typeErrors.get(i), e.typeErrorAt(i), lines);
        }
    }

    static String spell(Syntaxspan e) {
        e.clearName();
        String name = roll(4) == 0 ? "" : roll(5) == 0 ? "abcdef".substring(roll(6)) : word();
        for (int i = 0; i < name.length(); i++) {
            e.spell(name.charAt(i));
        }
        return name;
    }

    static int nameToken(World w, int f, boolean declared) {
        List<Integer> good = new ArrayList<>();
        for (int t = 0; t < w.lex[f].toks.size(); t++) {
            if (w.lex[f].toks.get(t).cls == NAME && (!declared || w.bound.getOrDefault(1000 * f + t, -1) == 1000 * f + t)) {
                good.add(t);
            }
        }
        return good.isEmpty() ? -1 : good.get(roll(good.size()));
    }

    static void plans(Syntaxspan e, String[][] lines, String[][] saved, String[] spelled) {
        if (!spend(36)) {
            return;
        }
        World w = new World(lines);
        List<Change> plan = new ArrayList<>();
        int n = 1 + roll(3) / (1 + roll(2));
        for (int i = 0; i < n; i++) {
            Change c = new Change();
            c.file = roll(3);
            int size = w.lex[c.file].toks.size();
            c.tok = nameToken(w, c.file, roll(8) != 0);
            c.tok = roll(40) == 0 && size > 0 ? roll(size) : c.tok;
            if (c.tok < 0) {
                continue;
            }
            int k = roll(3);
            if (k == 0) {
                spelled[0] = spell(e);
                c.kind = 'r';
                c.name = spelled[0];
                same("planRename", plan.size() + 1, e.planRename(c.file, c.tok), lines);
            } else if (k == 1) {
                c.kind = 'i';
                for (int tries = 0; tries < 6; tries++) {
                    int t = nameToken(w, c.file, true);
                    c.tok = t >= 0 && w.lets.containsKey(1000 * c.file + t) ? t : c.tok;
                }
                same("planInline", plan.size() + 1, e.planInline(c.file, c.tok), lines);
            } else {
                c.kind = 'm';
                c.other = (c.file + 1 + roll(2)) % 3;
                for (int tries = 0; tries < 6; tries++) {
                    int t = nameToken(w, c.file, true);
                    c.tok = t >= 0 && w.fns.containsKey(1000 * c.file + t) ? t : c.tok;
                }
                same("planMove", plan.size() + 1, e.planMove(c.file, c.tok, c.other), lines);
            }
            plan.add(c);
        }
        int why = 0;
        String[][] after = lines;
        try {
            after = carry(lines, plan);
        } catch (Stop s) {
            why = s.why;
        }
        if (roll(12) == 0) {
            randomEdit(e, lines, saved);
            int got = e.reason();
            same("reason after an edit", got == 1 ? 1 : plan.isEmpty() ? 0 : why, got, lines);
            same("clearPlan", plan.size(), e.clearPlan(), lines);
            return;
        }
        String tale = "";
        for (Change c : plan) {
            tale += " " + c.kind + c.file + ":" + c.tok + "->" + (c.kind == 'm' ? "" + c.other : c.name);
            REASONS.merge(100 * c.kind + why, 1, Integer::sum);
        }
        same("reason" + tale, why, e.reason(), lines);
        int done = -1;
        try {
            done = e.carryOut();
        } catch (IllegalStateException x) {
            done = -2;
        }
        same("carryOut" + tale, plan.isEmpty() || why != 0 ? -2 : plan.size(), done, lines);
        if (why == 0) {
            for (int f = 0; f < 3; f++) {
                lines[f] = after[f].clone();
            }
        }
        same("clearPlan", done > 0 ? 0 : plan.size(), e.clearPlan(), lines);
    }

    static void oneRun(int style) {
        Syntaxspan e = new Syntaxspan();
        left = 512;
        String[][] lines = new String[3][8];
        String[][] saved = new String[3][8];
        for (int f = 0; f < 3; f++) {
            Arrays.fill(lines[f], "");
            Arrays.fill(saved[f], "");
        }
        int first = roll(3);
        for (int i = 0; i < 3 && style < 3; i++) {
            int f = (first + i) % 3;
            String[] next = file(style * roll(3));
            for (int l = 0; l < 8 && left > (i < 2 ? 300 : 240); l++) {
                setLine(e, lines, f, l, next[l]);
            }
        }
        String[] name = {""};
        for (int round = 0; round < 6 && left > 40; round++) {
            for (int i = 0; i < (style == 3 ? 8 : round == 0 ? 0 : 2); i++) {
                randomEdit(e, lines, saved);
            }
            if (roll(3) == 0 && spend(7)) {
                name[0] = spell(e);
            }
            compare(e, lines, name[0], roll(4));
            plans(e, lines, saved, name);
        }
    }

    static void compare(Syntaxspan e, String[][] lines, String name, int what) {
        World w = new World(lines);
        int first = roll(3);
        for (int i = 0; i < 2; i++) {
            int f = (first + i) % 3;
            if (what == 0) {
                compareTokens(e, lines, w, f);
            } else if (what == 1) {
                compareTrees(e, lines, w, f, name);
            }
        }
        if (what == 2) {
            compareNames(e, lines, w);
        }
    }

    public static void main(String[] args) {
        int runs = args.length > 0 ? Integer.parseInt(args[0]) : 4000;
        dice = new java.util.Random(args.length > 1 ? Long.parseLong(args[1]) : 7);
        for (int i = 0; i < runs && faults < 12; i++) {
            oneRun(i % 4);
        }
        if (args.length > 0) {
            System.out.println(new java.util.TreeMap<>(REASONS));
        }
        if (faults > 0) {
            System.out.println(faults + " faults");
            System.exit(1);
        }
    }
}
