/** Each promise by hand: ordinary inputs, the edges that the document names, and wrong inputs. */
public final class PromiseTest {
    private static final int INDEX = 1, ARGUMENT = 2, STATE = 3;
    private static int faults;

    private interface Call {
        long give();
    }

    private static void is(int promise, String what, long due, long got) {
        if (due != got) {
            faults++;
            System.out.println("promise " + promise + ", " + what + ": due " + due + ", got " + got);
        }
    }

    private static void fails(int promise, String what, int due, Call call) {
        int got = 0;
        try {
            call.give();
        } catch (IndexOutOfBoundsException e) {
            got = INDEX;
        } catch (IllegalArgumentException e) {
            got = ARGUMENT;
        } catch (IllegalStateException e) {
            got = STATE;
        }
        is(promise, what + " throws", due, got);
    }

    private static Syntaxspan with(int file, String... lines) {
        return and(new Syntaxspan(), file, lines);
    }

    private static Syntaxspan and(Syntaxspan x, int file, String... lines) {
        for (int l = 0; l < lines.length; l++) {
            x.clear(file, l);
            for (int c = 0; c < lines[l].length(); c++) {
                x.insert(file, l, c, lines[l].charAt(c));
            }
        }
        return x;
    }

    private static void line(int promise, Syntaxspan x, int file, int line, String due) {
        StringBuilder got = new StringBuilder();
        for (int c = 0; c < x.length(file, line); c++) {
            got.append(x.charAt(file, line, c));
        }
        if (!due.equals(got.toString())) {
            faults++;
            System.out.println("promise " + promise + ", line " + line + " of " + file + ": due " + due + ", got " + got);
        }
    }

    private static void spell(Syntaxspan x, String name) {
        x.clearName();
        for (int i = 0; i < name.length(); i++) {
            x.spell(name.charAt(i));
        }
    }

    private static void newObject() {
        Syntaxspan x = new Syntaxspan();
        is(1, "NONE", -1, Syntaxspan.NONE);
        is(1, "types", 12, 100 * Syntaxspan.UNKNOWN + 10 * Syntaxspan.INT + Syntaxspan.BOOL);
        for (int file = 0; file < 3; file++) {
            for (int line = 0; line < 8; line++) {
                is(1, "length", 0, x.length(file, line));
            }
            is(1, "tokens", 0, x.tokens(file));
            is(1, "back", 0, x.back(file));
        }
        is(1, "name", 0, x.clearName());
        is(1, "plan", 0, x.clearPlan());
        is(1, "reason", 0, x.reason());
        is(1, "relexed", 0, x.relexed());
    }

    private static void insertAndErase() {
        Syntaxspan x = new Syntaxspan();
        is(2, "first", 1, x.insert(2, 7, 0, '~'));
        is(2, "ahead", 2, x.insert(2, 7, 0, ' '));
        is(2, "behind", 3, x.insert(2, 7, 2, 'z'));
        is(2, "middle", 4, x.insert(2, 7, 1, 'q'));
        line(2, x, 2, 7, " q~z");
        fails(2, "file -1", INDEX, () -> x.insert(-1, 0, 0, (char) 9));
        fails(2, "file 3", INDEX, () -> x.insert(3, 0, 0, 'a'));
        fails(2, "line -1", INDEX, () -> x.insert(0, -1, 0, 'a'));
        fails(2, "line 8", INDEX, () -> x.insert(0, 8, 0, 'a'));
        fails(2, "column -1", INDEX, () -> x.insert(2, 7, -1, 'a'));
        fails(2, "column 5", INDEX, () -> x.insert(2, 7, 5, (char) 9));
        fails(2, "sign 31", ARGUMENT, () -> x.insert(2, 7, 4, (char) 31));
        fails(2, "sign 127", ARGUMENT, () -> x.insert(2, 7, 4, (char) 127));
        for (int i = 4; i < 24; i++) {
            is(2, "fill", i + 1, x.insert(2, 7, i, 'a'));
        }
        fails(2, "full, sign", ARGUMENT, () -> x.insert(2, 7, 0, (char) 200));
        fails(2, "full", STATE, () -> x.insert(2, 7, 24, 'a'));
        is(2, "nothing changed", 24, x.length(2, 7));
        fails(3, "column 24", INDEX, () -> x.erase(2, 7, 24));
        is(3, "last", 'a', x.erase(2, 7, 23));
        is(3, "second", 'q', x.erase(2, 7, 1));
        line(3, x, 2, 7, " ~zaaaaaaaaaaaaaaaaaaa");
        fails(3, "file", INDEX, () -> x.erase(3, 7, 0));
        fails(3, "line", INDEX, () -> x.erase(2, 8, 0));
        fails(3, "column -1", INDEX, () -> x.erase(2, 7, -1));
        fails(3, "empty line", INDEX, () -> x.erase(0, 0, 0));
    }

    private static void pasteAndClear() {
        String[] due = {"fn f(x) {", "fn g(x, y) {", "fn h() {", "}", "let y = x + 1;", "let x = 2;", "ret x;",
            "ret y * 2;", "if x < 3 {", "} else {", "x = x - 1;", "ret f(x);", "let z = g(x, y);", "use a;", "use b;",
            "use c;", "ret x == y;", "f(1);", "/* ", " */", "let y = !no;", "ret f(g(x, 1));", "{", "let = x + ;"};
        Syntaxspan x = new Syntaxspan();
        for (int i = 0; i < 24; i++) {
            is(4, "length", due[i].length(), x.paste(i / 8, i % 8, i));
            line(4, x, i / 8, i % 8, due[i]);
        }
        is(4, "behind what was there", 24, x.paste(0, 1, 1));
        fails(4, "full", STATE, () -> x.paste(0, 1, 3));
        fails(4, "full, no fragment", ARGUMENT, () -> x.paste(0, 1, 24));
        fails(4, "fragment -1", ARGUMENT, () -> x.paste(0, 0, -1));
        fails(4, "no file, no fragment", INDEX, () -> x.paste(-1, 0, 24));
        fails(4, "no line", INDEX, () -> x.paste(0, 8, 0));
        is(5, "clear", 24, x.clear(0, 1));
        is(5, "clear again", 0, x.clear(0, 1));
        is(5, "empty", 0, x.length(0, 1));
        is(5, "others stay", 9, x.length(0, 0));
        fails(5, "file", INDEX, () -> x.clear(3, 0));
        fails(5, "line", INDEX, () -> x.clear(0, -1));
    }

    private static void saveAndBack() {
        Syntaxspan x = with(1, "ab", "", "c");
        is(6, "first", 2, x.save(1));
        is(6, "again", 0, x.save(1));
        x.insert(1, 0, 0, 'z');
        x.paste(1, 5, 3);
        x.insert(1, 2, 0, 'c');
        x.erase(1, 2, 0);
        is(7, "back", 2, x.back(1));
        line(7, x, 1, 0, "ab");
        line(7, x, 1, 5, "");
        is(7, "back again", 0, x.back(1));
        x.clear(1, 2);
        is(6, "one line less", 1, x.save(1));
        is(6, "another file", 0, x.save(0));
        x.paste(2, 3, 3);
        x.paste(2, 4, 18);
        is(7, "never saved", 2, x.back(2));
        is(7, "tokens then", 0, x.tokens(2));
        fails(6, "file", INDEX, () -> x.save(3));
        fails(7, "file", INDEX, () -> x.back(-1));
    }

    private static void charsAndLengths() {
        Syntaxspan x = with(0, "a}");
        is(8, "first", 'a', x.charAt(0, 0, 0));
        is(8, "last", '}', x.charAt(0, 0, 1));
        fails(8, "behind", INDEX, () -> x.charAt(0, 0, 2));
        fails(8, "ahead", INDEX, () -> x.charAt(0, 0, -1));
        fails(8, "line", INDEX, () -> x.charAt(0, 8, 0));
        fails(8, "file", INDEX, () -> x.charAt(3, 0, 0));
        is(9, "two", 2, x.length(0, 0));
        is(9, "none", 0, x.length(0, 7));
        fails(9, "line", INDEX, () -> x.length(0, 8));
        fails(9, "file", INDEX, () -> x.length(-1, 0));
    }

    private static void relexedLines() {
        Syntaxspan x = with(0, "a", "b", "c", "d */ e");
        x.paste(0, 0, 3);
        is(10, "same mode", 1, x.relexed());
        x.paste(0, 1, 18);
        is(10, "up to the line that ends in code as before", 3, x.relexed());
        x.save(0);
        x.back(0);
        is(10, "not by save and back", 3, x.relexed());
        x.clear(0, 3);
        is(10, "to the last line", 5, x.relexed());
        x.clear(0, 3);
        is(10, "nothing changed", 1, x.relexed());
        x.clear(0, 1);
        is(10, "out of the comment again", 7, x.relexed());
        fails(10, "a call that throws", INDEX, () -> x.insert(0, 9, 0, 'a'));
        is(10, "is none", 7, x.relexed());
        x.insert(0, 0, 0, '/');
        x.insert(0, 0, 1, '*');
        is(10, "all lines", 8, x.relexed());
        x.insert(0, 0, 2, '/');
        is(10, "the * of the beginning is none of the end", 1, x.relexed());
        x.insert(0, 0, 2, '*');
        is(10, "but another one is", 8, x.relexed());
        x.insert(0, 7, 0, '/');
        x.insert(0, 7, 1, '*');
        is(10, "last line", 1, x.relexed());
        x.insert(0, 7, 2, '/');
        x.erase(0, 7, 1);
        is(10, "erase", 1, x.relexed());
    }

    private static void tokensOfAFile() {
        Syntaxspan x = with(0, "use fn let if else ret", "yes no usex 999 1234", "(){},;=== <+-*!/?A", "a/*/b*/1c/*",
            "x*//**/y");
        int[] classes = {2, 3, 4, 5, 6, 7, 8, 9, 0, 1, 23, 10, 11, 12, 13, 14, 15, 17, 16, 18, 19, 20, 21, 22, 23, 23,
            23, 0, 1, 0, 0};
        is(11, "count", classes.length, x.tokens(0));
        for (int i = 0; i < classes.length; i++) {
            is(12, "class of " + i, classes[i], x.token(0, i) / 10000);
            is(13, "anew " + i, x.token(0, i), x.tokenAnew(0, i));
        }
        is(12, "place", 170000 + 2006, x.token(0, 17));
        is(12, "place in line 4", 4007, x.token(0, 30));
        is(11, "another file", 0, x.tokens(1));
        fails(11, "file", INDEX, () -> x.tokens(3));
        fails(12, "token -1", INDEX, () -> x.token(0, -1));
        fails(12, "END", INDEX, () -> x.token(0, 31));
        fails(12, "file", INDEX, () -> x.token(-1, 0));
        fails(13, "END", INDEX, () -> x.tokenAnew(0, 31));
        fails(13, "file", INDEX, () -> x.tokenAnew(3, 0));
    }

    private static void colours() {
        Syntaxspan x = with(0, "fn f(x) {/*a", "b */ ret f(x)+q*12; }", "? ! 1234");
        String[] due = {"220374707111", "111102220374775766707", "80708888"};
        for (int l = 0; l < due.length; l++) {
            is(14, "length", due[l].length(), x.length(0, l));
            for (int c = 0; c < due[l].length(); c++) {
                is(14, "line " + l + " column " + c, due[l].charAt(c) - '0', x.colour(0, l, c));
            }
        }
        fails(14, "behind", INDEX, () -> x.colour(0, 0, 12));
        fails(14, "line", INDEX, () -> x.colour(0, 8, 0));
        fails(14, "file", INDEX, () -> x.colour(3, 0, 0));
    }

    private static void brackets() {
        Syntaxspan x = with(0, "( { ) } x )", "{ } { {", "}", "}", "{");
        int[] due = {5, 3, -1, 1, -1, 0, 7, 6, 11, 10, 9, 8, -1};
        for (int i = 0; i < due.length; i++) {
            is(15, "token " + i, due[i], x.partner(0, i));
        }
        fails(15, "END", INDEX, () -> x.partner(0, 13));
        fails(15, "file", INDEX, () -> x.partner(-1, 0));
        int[] folds = {-1, 3, -1, -1, -1, -1, -1, -1};
        for (int l = 0; l < 8; l++) {
            is(16, "line " + l, folds[l], x.fold(0, l));
        }
        is(16, "the first of two", 2, with(1, "{{", "}", "}").fold(1, 0));
        fails(16, "line", INDEX, () -> x.fold(0, 8));
        fails(16, "file", INDEX, () -> x.fold(3, 0));
    }

    private static void errorsOf(Syntaxspan x, String what, int... due) {
        is(17, what, due.length / 2, x.errors(0));
        for (int i = 0; i + 1 < due.length; i += 2) {
            if (i / 2 < x.errors(0)) {
                is(18, what + " " + i / 2, due[i], x.errorAt(0, i / 2));
                is(19, what + " " + i / 2, due[i + 1], x.repair(0, i / 2));
            }
        }
    }

    private static void errorsAndRepairs() {
        errorsOf(with(0, "use a; fn f(x) { ret x;", "}"), "none");
        errorsOf(with(0, "x y use ; fn (", "use b"), "items", 0, -1, 3, -1, 5, -1, 8, -1);
        errorsOf(with(0, "fn f()", "fn g(x,) {}"), "headers", 4, -1, 9, -1);
        errorsOf(with(0, "fn f() { { { fn g() {"), "blocks", 7, -1, 7, -1, 7, -1, 12, -1);
        errorsOf(with(0, "fn f() {", "let = x + ;", "}"), "put in", 6, 2);
        errorsOf(with(0, "fn f() {", "let x 1;", "ret ;", ";", "x;}"), "few each", 7, 1, 10, 1, 11, 2, 13, 1);
        errorsOf(with(0, "fn f() {", "ret 1 == 2 == 3;", "}"), "two out", 9, 2);
        errorsOf(with(0, "fn f() {", "if x ret 1;}"), "no if in a repair", 7, 2);
        errorsOf(with(0, "fn f() {", "ret 1 1 1 1 1 1 1 1 1 1;", "}"), "long run", 7, -1);
        errorsOf(with(0, "fn f() {", "ret 1 1 1 1 1 1 1 1;", "}"), "run of 10", 7, 7);
        errorsOf(with(0, "fn f() {", "if 1 {} else x; x=1;", "}"), "no block behind ELSE", 10, -1);
        errorsOf(with(0, "fn f() {", "let {}", "}"), "stops ahead of a block", 6, 4);
        errorsOf(with(0, "fn f() {", "f(1,);f(1)+1;", "}"), "calls", 9, 1, 15, 1);
        Syntaxspan x = with(0, "x");
        fails(17, "file", INDEX, () -> x.errors(3));
        fails(18, "error 1", INDEX, () -> x.errorAt(0, 1));
        fails(18, "error -1", INDEX, () -> x.errorAt(0, -1));
        fails(18, "file", INDEX, () -> x.errorAt(3, 0));
        fails(19, "error 1", INDEX, () -> x.repair(0, 1));
        fails(19, "file", INDEX, () -> x.repair(-1, 0));
    }

    private static long print(int... numbers) {
        long p = 7;
        for (int n : numbers) {
            p = 31 * p + n;
        }
        return p;
    }

    private static void trees() {
        is(20, "empty", 7, new Syntaxspan().tree(2));
        is(20, "items", print(1, 2, 2, 3, 4), with(0, "use a; fn f(x, y) {}").tree(0));
        is(20, "no item", print(2, 0, 3, 4), with(0, "use ; fn f() {} fn g").tree(0));
        is(20, "statements", print(2, 0, 3, 5, 13, 6, 13, 7, 13, 13, 8, 7, 8, 9, 13, 12, 3, 4, 4),
            with(0, "fn f() { let x = 1;", "x = yes; f(x, no); f();", "ret q; ret; {} }").tree(0));
        is(20, "ifs", print(2, 0, 3, 10, 13, 3, 4, 10, 13, 3, 4, 11, 3, 9, 13, 4, 4),
            with(0, "fn f() { if 1 {} if 2 {}", "else { ret 3; }", "}").tree(0));
        is(20, "exprs", print(2, 0, 3, 9, 17, 20, 19, 13, 21, 13, 13, 16, 13, 14, 18, 13, 13, 14, 15, 15, 4),
            with(0, "fn f() { ret 1 + 2 * 3 -", "!x == g((1 < 2), h());", "}").tree(0));
        is(20, "from the left", print(2, 0, 3, 9, 20, 20, 13, 13, 20, 13, 13, 4),
            with(0, "fn f() {", "ret 1 - 2 - (3 - 4);}").tree(0));
        fails(20, "file", INDEX, () -> new Syntaxspan().tree(3));
    }

    private static int set(int... classes) {
        int s = 0;
        for (int c : classes) {
            s |= 1 << c;
        }
        return s;
    }

    private static void whatMayStand() {
        Syntaxspan x = with(0, "use a; fn f(x) {", "if f(1) {} x = 1 < 2; }");
        is(21, "items", set(2, 3, 24), x.may(0, 0));
        is(21, "behind use", set(0), x.may(0, 1));
        is(21, "behind its name", set(15), x.may(0, 2));
        is(21, "params", set(0, 11), x.may(0, 6));
        is(21, "behind one", set(11, 14), x.may(0, 7));
        is(21, "block", set(12), x.may(0, 8));
        is(21, "statements", set(0, 4, 5, 7, 12, 13), x.may(0, 9));
        is(21, "expr", set(0, 1, 8, 9, 10, 22), x.may(0, 10));
        is(21, "name in an expr", set(10, 12, 17, 18, 19, 20, 21), x.may(0, 11));
        is(21, "first expr of a call", set(0, 1, 8, 9, 10, 11, 22), x.may(0, 12));
        is(21, "else", set(0, 4, 5, 6, 7, 12, 13), x.may(0, 16));
        is(21, "name in a statement", set(10, 16), x.may(0, 17));
        is(21, "no second comparison", set(15, 19, 20, 21), x.may(0, 21));
        is(21, "where tokens are skipped", (1 << 25) - 1, with(1, "x y").may(1, 1));
        is(21, "behind all", set(2, 3, 24), x.may(0, x.tokens(0)));
        fails(21, "place -1", INDEX, () -> x.may(0, -1));
        fails(21, "too far", INDEX, () -> x.may(0, x.tokens(0) + 1));
        fails(21, "file", INDEX, () -> x.may(3, 0));
    }

    private static void functionsOfAFile() {
        Syntaxspan x = with(2, "use a; fn f(x, y) {}", "fn g( {} fn f() {");
        is(22, "two", 2, x.functions(2));
        is(22, "none", 0, x.functions(1));
        is(23, "first", 402, x.functionAt(2, 0));
        is(23, "second", 1800, x.functionAt(2, 1));
        fails(22, "file", INDEX, () -> x.functions(-1));
        fails(23, "function 2", INDEX, () -> x.functionAt(2, 2));
        fails(23, "function -1", INDEX, () -> x.functionAt(2, -1));
        fails(23, "file", INDEX, () -> x.functionAt(3, 0));
    }

    private static void bound(Syntaxspan x, int file, int... due) {
        for (int i = 0; i < due.length; i++) {
            is(24, "token " + i + " of " + file, due[i], x.binding(file, i));
            is(25, "token " + i + " of " + file, due[i], x.bindingAnew(file, i));
        }
    }

    private static void bindings() {
        Syntaxspan x = with(0, "fn f(x, x) { let x = x;", "{ let x = x; x = x; }", "ret x + q; let x; f(x);}");
        bound(x, 0, -1, 1, -1, 3, -1, 5, -1, -1, -1, 9, -1, 3, -1, -1, -1, 15, -1, 9, -1, 15, -1, 15, -1, -1, -1, 9,
            -1, -1, -1, -1, -1, -1, 1, -1, 9, -1, -1, -1);
        Syntaxspan y = with(0, "use c; use x; use b;", "fn h() { g(1); f(1); }", "fn h() { h(); k(g); }");
        and(y, 1, "fn g() {} fn f() {}");
        and(y, 2, "fn g(){} use a; fn u(){", "h(); f(); }");
        is(24, "its own function", 10, y.binding(0, 10));
        is(24, "used first", 2001, y.binding(0, 14));
        is(24, "used later", 1007, y.binding(0, 19));
        is(24, "the first of the name", 10, y.binding(0, 30));
        is(24, "in none", -1, y.binding(0, 34));
        is(24, "no variable", -1, y.binding(0, 36));
        is(24, "through use", 10, y.binding(2, 14));
        is(24, "not used", -1, y.binding(2, 18));
        is(24, "of a use", -1, y.binding(0, 1));
        is(25, "used first", 2001, y.bindingAnew(0, 14));
        fails(24, "END", INDEX, () -> x.binding(0, x.tokens(0)));
        fails(24, "file", INDEX, () -> x.binding(3, 0));
        fails(25, "END", INDEX, () -> x.bindingAnew(0, x.tokens(0)));
        fails(25, "token -1", INDEX, () -> x.bindingAnew(0, -1));
    }

    private static void typesFound() {
        Syntaxspan x = with(0, "fn f(x, y, z) { if y {", "ret x + 1; } z = q; }", "fn g() { f(yes,1,2);",
            "let w = f(1); ret w==!g", "(); }");
        is(26, "result", 1, x.typeOf(0, 1));
        is(26, "x", 1, x.typeOf(0, 3));
        is(26, "y", 2, x.typeOf(0, 5));
        is(26, "z", 1, x.typeOf(0, 7));
        is(26, "through a binding", 2, x.typeOf(0, 11));
        is(26, "bound to nothing", 0, x.typeOf(0, 21));
        is(26, "g", 2, x.typeOf(0, 25));
        is(26, "no name", 0, x.typeOf(0, 0));
        is(27, "count", 4, x.typeErrors());
        is(28, "x given BOOL", 31, x.typeErrorAt(0));
        is(28, "y given INT", 33, x.typeErrorAt(1));
        is(28, "number of exprs", 41, x.typeErrorAt(2));
        is(28, "right side of ==", 49, x.typeErrorAt(3));
        is(27, "of another file", 2, with(2, "fn f() { ret 1 + !1;}").typeErrors());
        is(28, "what is in it first", 2009, with(2, "fn f() { ret 1 + !1;}").typeErrorAt(0));
        is(28, "of another file", 2008, with(2, "fn f() { ret 1 + !1;}").typeErrorAt(1));
        is(28, "left first", 6, with(0, "fn f(){ret (yes)-!no;}").typeErrorAt(0));
        is(28, "then right", 10, with(0, "fn f(){ret (yes)-!no;}").typeErrorAt(1));
        is(27, "none", 0, new Syntaxspan().typeErrors());
        fails(28, "error 4", INDEX, () -> x.typeErrorAt(4));
        fails(28, "error -1", INDEX, () -> x.typeErrorAt(-1));
        fails(26, "END", INDEX, () -> x.typeOf(0, x.tokens(0)));
        fails(26, "file", INDEX, () -> x.typeOf(3, 0));
    }

    private static void spelling() {
        Syntaxspan x = new Syntaxspan();
        for (int i = 0; i < 6; i++) {
            is(29, "letter", i + 1, x.spell(i % 2 == 0 ? 'a' : 'z'));
        }
        fails(29, "seventh", STATE, () -> x.spell('a'));
        fails(29, "seventh, no letter", ARGUMENT, () -> x.spell('A'));
        is(30, "six", 6, x.clearName());
        is(30, "none", 0, x.clearName());
        fails(29, "below a", ARGUMENT, () -> x.spell((char) ('a' - 1)));
        fails(29, "above z", ARGUMENT, () -> x.spell('{'));
        is(29, "from the start", 1, x.spell('q'));
    }

    private static void listed(Syntaxspan x, int file, int place, int... due) {
        is(31, "place " + place, due.length, x.completions(file, place));
        for (int i = 0; i < due.length; i++) {
            is(32, "place " + place + " " + i, due[i], x.completionAt(file, place, i));
        }
        is(32, "place " + place + ", no more", -1, x.completionAt(file, place, due.length));
    }

    private static void completing() {
        Syntaxspan x = with(0, "use b; fn f(x, fo) {", "let x = 1; { let y = 2;", "let fa = 3; } let z = x;", "}",
            "fn f() {}");
        and(x, 1, "fn f() {} fn fu() {}");
        listed(x, 0, 12, 6, 8, 4, 1007);
        listed(x, 0, 29, 12, 8, 4, 1007);
        listed(x, 0, 22, 18, 12, 8, 4, 1007);
        listed(x, 0, 0);
        listed(x, 0, 1, 4, 1007);
        listed(x, 0, 13);
        listed(x, 0, 14, 6, 8, 4, 1007);
        spell(x, "f");
        listed(x, 0, 27, 23, 8, 4, 1007);
        spell(x, "fo");
        listed(x, 0, 12, 8);
        spell(x, "foo");
        listed(x, 0, 12);
        Syntaxspan y = with(0, "fn abcdef(abcdefg) {}");
        spell(y, "abcdef");
        listed(y, 0, 6, 3, 1);
        spell(y, "bcdef");
        listed(y, 0, 6);
        fails(31, "place", INDEX, () -> x.completions(0, x.tokens(0) + 1));
        fails(31, "file", INDEX, () -> x.completions(3, 0));
        fails(32, "place", INDEX, () -> x.completionAt(0, -1, 0));
        fails(32, "which", INDEX, () -> x.completionAt(0, 0, -1));
        fails(32, "file", INDEX, () -> x.completionAt(-1, 0, 0));
    }

    private static void renames() {
        Syntaxspan x = with(0, "fn f(x) { ret x+f(x); }");
        and(x, 1, "use a; fn g() { ret f(1)", "; }");
        spell(x, "long");
        is(33, "first", 1, x.planRename(0, 1));
        spell(x, "y");
        is(33, "second", 2, x.planRename(0, 3));
        is(37, "no reason", 3, x.reason());
        is(36, "had", 2, x.clearPlan());
        is(33, "first", 1, x.planRename(0, 3));
        spell(x, "h");
        is(33, "the name is that of the planning", 2, x.planRename(0, 1));
        is(37, "no reason", 0, x.reason());
        is(38, "done", 2, x.carryOut());
        line(38, x, 0, 0, "fn h(y) { ret y+h(y); }");
        line(38, x, 1, 0, "use a; fn g() { ret h(1)");
        is(36, "empty then", 0, x.clearPlan());
        fails(38, "empty", STATE, x::carryOut);
        x.clearName();
        x.planRename(0, 3);
        is(37, "no name", 2, x.reason());
        x.clearPlan();
        spell(x, "let");
        x.planRename(0, 3);
        is(37, "a word that is no NAME", 2, x.reason());
        fails(38, "a reason", STATE, x::carryOut);
        x.clearPlan();
        spell(x, "g");
        x.planRename(1, 12);
        is(37, "no declaration", 2, x.reason());
        x.clearPlan();
        x.planRename(0, 1);
        is(37, "caught by another", 4, x.reason());
        x.planRename(0, 1);
        x.planRename(0, 1);
        fails(33, "fourth", STATE, () -> x.planRename(0, 1));
        fails(34, "fourth", STATE, () -> x.planInline(0, 1));
        fails(35, "fourth", STATE, () -> x.planMove(0, 1, 2));
        fails(35, "fourth, same file", ARGUMENT, () -> x.planMove(0, 1, 0));
        fails(33, "fourth, no token", INDEX, () -> x.planRename(0, 99));
        fails(33, "file", INDEX, () -> x.planRename(3, 0));
    }

    private static void reasonsByEdits() {
        Syntaxspan x = with(0, "fn f(x) { ret x; }");
        spell(x, "y");
        x.planRename(0, 3);
        is(37, "none", 0, x.reason());
        x.clear(1, 1);
        x.back(2);
        is(37, "no line was changed", 0, x.reason());
        x.insert(1, 0, 0, 'a');
        is(37, "insert", 1, x.reason());
        x.clearPlan();
        x.planRename(0, 3);
        is(37, "planned behind it", 0, x.reason());
        x.erase(1, 0, 0);
        is(37, "erase", 1, x.reason());
        fails(38, "changed", STATE, x::carryOut);
        is(36, "clear", 1, x.clearPlan());
        x.planRename(0, 3);
        is(37, "planned anew", 0, x.reason());
        x.paste(2, 0, 3);
        is(37, "paste", 1, x.reason());
        x.clearPlan();
        x.planRename(0, 3);
        x.back(2);
        is(37, "back", 1, x.reason());
        x.clearPlan();
        is(37, "empty", 0, x.reason());
        x.paste(2, 0, 3);
        x.planRename(0, 3);
        x.clear(2, 0);
        is(37, "clear", 1, x.reason());
    }

    private static int inlined(Syntaxspan x, int token) {
        x.clearPlan();
        x.planInline(0, token);
        return x.reason();
    }

    private static void inlines() {
        Syntaxspan x = with(0, "fn f(x) {", "let y = x + 1; /* */", "let z=2;ret y*z;", "}");
        is(37, "possible", 0, inlined(x, 7));
        is(34, "two", 2, x.planInline(0, 7));
        is(38, "done", 2, x.carryOut());
        line(38, x, 0, 1, " /* */");
        line(38, x, 0, 2, "ret (x+1)*2;");
        is(37, "a parameter", 2, inlined(x, 3));
        is(37, "a function", 2, inlined(x, 1));
        is(37, "two lines", 2, inlined(with(0, "fn f(x) { let y", "= x; ret y;}"), 7));
        is(37, "two lines, the name in the second", 2, inlined(with(0, "fn f(x) { let", "y = x; ret y;}"), 7));
        is(37, "set later", 2, inlined(with(0, "fn f(x) { let y=1; y=2;}"), 7));
        is(37, "its expr is set", 2, inlined(with(0, "fn f(x) { let y=x; x=2;}"), 7));
        is(37, "a call", 2, inlined(with(0, "fn f(x) { let y=f(1); }"), 7));
        is(37, "bound otherwise", 2, inlined(with(0, "fn f(x) { let y=x;", "let x=1; ret y; }"), 7));
        is(37, "not used there", 0, inlined(with(0, "fn f(x) { let y=x;", "ret y; let x=1; }"), 7));
        is(37, "long", 3, inlined(with(0, "fn f(x) { let y=100+100;", "ret y+y+y;}"), 7));
        Syntaxspan e = with(0, "fn f(){let x=1;}");
        fails(34, "token", INDEX, () -> e.planInline(0, e.tokens(0)));
        fails(34, "file", INDEX, () -> e.planInline(-1, 0));
    }

    private static int moved(Syntaxspan x, int token, int other) {
        x.clearPlan();
        x.planMove(0, token, other);
        return x.reason();
    }

    private static void moves() {
        Syntaxspan x = with(0, "fn f(x) {", "ret g(x); }", "", "fn g(y) { ret f(y); }");
        and(x, 1, "use a; fn h() { f(1); }", "", "/* */");
        is(35, "one", 1, x.planMove(0, 1, 1));
        is(37, "possible", 0, x.reason());
        is(38, "done", 1, x.carryOut());
        line(38, x, 0, 0, "use b;");
        line(38, x, 0, 1, "");
        line(38, x, 0, 2, "fn g(y) { ret f(y); }");
        line(38, x, 1, 0, "use a; fn h() { f(1); }");
        line(38, x, 1, 1, "fn f(x) {");
        line(38, x, 1, 2, "ret g(x); }");
        line(38, x, 1, 3, "");
        line(38, x, 1, 4, "/* */");
        is(37, "no function", 2, moved(with(0, "fn f(x) {}"), 3, 1));
        is(37, "not closed", 2, moved(with(0, "fn f(x) {"), 1, 1));
        is(37, "others in its lines", 2, moved(with(0, "fn f(x) {} use a;"), 1, 1));
        is(37, "begins in a comment", 2, moved(with(0, "/*", "*/ fn f(x) {}"), 1, 1));
        is(37, "ends in a comment", 2, moved(with(0, "fn f(x) {} /*"), 1, 1));
        is(37, "the other ends in one", 2, moved(and(with(0, "fn f(x) {}"), 2, "use a; /*"), 1, 2));
        is(37, "a comment without tokens", 0, moved(and(with(0, "fn f(x) {}"), 2, "/*"), 1, 2));
        is(37, "no room", 3, moved(and(with(0, "fn f(x) {", "}"), 2, "", "", "", "", "", "", ";"), 1, 2));
        is(37, "a blank goes down", 3, moved(and(with(0, "fn f() {}"), 2, ";", "", "", "", "", "", "", " "), 1, 2));
        is(37, "room for a use", 0, moved(with(0, "fn f() {}", "fn g() { f(); }", "", "", "", "", "", ";"), 1, 2));
        is(37, "no room for a use", 3, moved(and(with(0, "fn f() {}"), 1, "use a; fn g() { f(); }", "", "", "", "",
            "", "", " "), 1, 2));
        is(37, "caught", 4, moved(and(with(0, "fn f() {}", "fn g() { f(); }"), 2, "fn f() {}"), 1, 2));
        Syntaxspan e = with(0, "fn f() {}");
        fails(35, "token", INDEX, () -> e.planMove(0, 6, 0));
        fails(35, "other", INDEX, () -> e.planMove(0, 1, 3));
        fails(35, "other -1", INDEX, () -> e.planMove(0, 1, -1));
        fails(35, "same", ARGUMENT, () -> e.planMove(0, 1, 0));
        fails(35, "file", INDEX, () -> e.planMove(3, 1, 0));
    }

    private static void runs() {
        Syntaxspan x = with(0, "fn f(x) { if x < 2 {", "ret x; } ret f(x-1) + x;", "}", "fn g(a,b,c) { x = 9;",
            "let d = a*b+c; ret d-(x", "==0)-!b+yes; }");
        is(39, "base", 1, x.run(0, 0, 1, 50));
        is(39, "four deep", 10, x.run(0, 0, 4, 0));
        is(39, "no fifth", 14, x.run(0, 0, 5, 0));
        is(39, "exprs", 12, x.run(0, 1, 3, 4));
        is(39, "overflow", (long) Integer.MIN_VALUE * Integer.MIN_VALUE, x.run(0, 1, Integer.MIN_VALUE,
            Integer.MIN_VALUE));
        String k = "fn k(){k();k();k();";
        is(39, "199 steps", 1, with(1, k, "ret 1;}").run(1, 0, 5, 0));
        String t = "fn t(){k();k();k();";
        is(39, "199 steps from t", 1, with(1, k, "ret 1;}", t, "ret 1;}").run(1, 1, 0, 0));
        is(39, "200 steps", 1, with(1, k, "ret 1;}", t, "x=1;ret 1;}").run(1, 1, 0, 0));
        is(39, "no more than 200", 0, with(1, k, "ret 1;}", t, "x=1;x=1;ret 1;}").run(1, 1, 0, 0));
        is(39, "the call is the last step", 7, with(1, k, "ret 1;}", t, "ret k()+7;}").run(1, 1, 0, 0));
        is(39, "a call behind all steps", 5, with(1, k, "ret 1;}", t, "x=1;ret k()+5;}").run(1, 1, 0, 0));
        is(39, "blocks are steps", 0, with(1, k, "ret 1;}", t, "{x=1;}ret 1;}").run(1, 1, 0, 0));
        is(39, "broken ones are none", 1, with(1, k, "ret 1;}", t, "x=;x=;x=1;ret 1;}").run(1, 1, 0, 0));
        is(39, "blocks of an IF are none", 1, with(1, k, "ret 1;}", t, "if 1{ret 1;}}").run(1, 1, 0, 0));
        Syntaxspan z = with(2, "fn f(x) { ret g(5*x)*10;", "}fn g(a,b,c) {", "ret c*100+b*10+a; }");
        is(39, "parameters without an expr", 50, z.run(2, 0, 1, 8));
        is(39, "a third one is 0", 43, z.run(2, 1, 3, 4));
        is(39, "exprs without a parameter", 7, with(0, "fn f() { ret g(1,2,3)+5;", "} fn g(x) { ret x+x; }")
            .run(0, 0, 0, 0));
        is(39, "no ret", 0, with(0, "fn f() { let x = 1; }").run(0, 0, 7, 7));
        is(39, "value of last time", 3, with(0, "fn f(x) { if x {let y=x;", "} ret x; }").run(0, 0, 3, 0));
        is(39, "ahead of a value", 0, with(0, "fn f(x) { let y = y;", "ret y+z+q(x=1); }").run(0, 0, 3, 0));
        is(39, "broken ones", 7, with(0, "fn f(x) { let = x; x = 1", "+; ret x; }").run(0, 0, 7, 0));
        is(39, "else", 2, with(0, "fn f(x) { if x {ret 1; }", "else { ret 2; } ret 3; }").run(0, 0, 0, 0));
        fails(39, "function", INDEX, () -> x.run(0, 2, 0, 0));
        fails(39, "function -1", INDEX, () -> x.run(0, -1, 0, 0));
        fails(39, "file", INDEX, () -> x.run(3, 0, 0, 0));
    }

    public static void main(String[] args) {
        newObject();
        insertAndErase();
        pasteAndClear();
        saveAndBack();
        charsAndLengths();
        relexedLines();
        tokensOfAFile();
        colours();
        brackets();
        errorsAndRepairs();
        trees();
        whatMayStand();
        functionsOfAFile();
        bindings();
        typesFound();
        spelling();
        completing();
        renames();
        reasonsByEdits();
        inlines();
        moves();
        runs();
        if (faults > 0) {
            System.out.println(faults + " faults");
            System.exit(1);
        }
    }
}
