/** A short way through the class: edits, tokens, a run. */
public final class FirstTest {
    public static void main(String[] args) {
        Syntaxspan editor = new Syntaxspan();
        editor.paste(0, 0, 0);
        editor.paste(0, 1, 6);
        editor.paste(0, 2, 3);
        boolean good = editor.run(0, 0, 7, 0) == 7 && editor.tokens(0) == 10 && editor.errors(0) == 0;
        if (!good) {
            System.out.println("f(7) does not give 7");
            System.exit(1);
        }
    }
}
