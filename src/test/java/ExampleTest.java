/** The example of README.md, with the answers that stand beside its calls. */
public final class ExampleTest {
    private static int wrong;

    private static void due(String call, long got, long want) {
        if (got != want) {
            wrong++;
            System.out.println(call + " answered " + got + ", due is " + want);
        }
    }

    private static void edits(Syntaxspan editor) {
        due("paste(0, 0, 0)", editor.paste(0, 0, 0), 9);
        due("paste(0, 1, 4)", editor.paste(0, 1, 4), 14);
        due("paste(0, 2, 7)", editor.paste(0, 2, 7), 10);
        due("paste(0, 3, 3)", editor.paste(0, 3, 3), 1);
        due("tokens(0)", editor.tokens(0), 19);
        due("token(0, 7)", editor.token(0, 7), 1004);
        due("binding(0, 14)", editor.binding(0, 14), 7);
        due("typeOf(0, 1)", editor.typeOf(0, 1), Syntaxspan.INT);
        due("fold(0, 0)", editor.fold(0, 0), 3);
        due("run(0, 0, 3, 0)", editor.run(0, 0, 3, 0), 8);
    }

    private static void broken(Syntaxspan editor) {
        due("erase(0, 1, 6)", editor.erase(0, 1, 6), '=');
        due("errors(0)", editor.errors(0), 1);
        due("errorAt(0, 0)", editor.errorAt(0, 0), 8);
        due("repair(0, 0)", editor.repair(0, 0), 1);
        due("may(0, 8)", editor.may(0, 8), 1 << 16);
        due("completions(0, 13)", editor.completions(0, 13), 2);
        due("completionAt(0, 13, 0)", editor.completionAt(0, 13, 0), 3);
        due("insert(0, 1, 6, '=')", editor.insert(0, 1, 6, '='), 14);
        due("relexed()", editor.relexed(), 1);
    }

    private static void plans(Syntaxspan editor) {
        due("spell('n')", editor.spell('n'), 1);
        due("planRename(0, 7)", editor.planRename(0, 7), 1);
        due("planInline(0, 7)", editor.planInline(0, 7), 2);
        due("planMove(0, 1, 2)", editor.planMove(0, 1, 2), 3);
        due("reason()", editor.reason(), 0);
        due("carryOut()", editor.carryOut(), 3);
        due("tokens(0)", editor.tokens(0), 0);
        due("length(2, 2)", editor.length(2, 2), 14);
        due("run(2, 0, 3, 0)", editor.run(2, 0, 3, 0), 8);
        due("planInline(2, 1)", editor.planInline(2, 1), 1);
        due("reason()", editor.reason(), 2);
        due("clearPlan()", editor.clearPlan(), 1);
    }

    public static void main(String[] args) {
        Syntaxspan editor = new Syntaxspan();
        edits(editor);
        broken(editor);
        plans(editor);
        if (wrong > 0) {
            System.exit(1);
        }
    }
}
