import java.util.Random;

/** Calls with any arguments, right and wrong: only the exceptions of the document come, and these change nothing. */
public final class RoughTest {
    private static final Random DICE = new Random(5);

    private static int any(int size) {
        int k = DICE.nextInt(40);
        return k == 0 ? -1 : k == 1 ? size : k == 2 ? Integer.MIN_VALUE : k == 3 ? Integer.MAX_VALUE
                : k == 4 ? DICE.nextInt() : DICE.nextInt(Math.max(1, size));
    }

    private static char sign() {
        String usual = "fnx yletr(){},;=<+-*!/12q";
        int k = DICE.nextInt(30);
        return k == 0 ? (char) DICE.nextInt(65536) : k == 1 ? (char) 31 : usual.charAt(DICE.nextInt(usual.length()));
    }

    private static long call(Syntaxspan x, int what, int f, int t) {
        switch (what) {
            case 0: return x.insert(f, any(8), any(20), sign());
            case 1: return x.erase(f, any(8), any(20));
            case 2: case 3: case 4: return x.paste(f, any(8), any(24));
            case 5: return x.clear(f, any(8));
            case 6: return x.save(f);
            case 7: return x.back(f);
            case 8: return x.charAt(f, any(8), any(20));
            case 9: return x.length(f, any(8));
            case 10: return x.relexed();
            case 11: return x.tokens(f);
            case 12: return x.token(f, t);
            case 13: return x.tokenAnew(f, t);
            case 14: return x.colour(f, any(8), any(20));
            case 15: return x.partner(f, t);
            case 16: return x.fold(f, any(8));
            case 17: return x.errors(f);
            case 18: return x.errorAt(f, any(4));
            case 19: return x.repair(f, any(4));
            case 20: return x.tree(f);
            case 21: return x.may(f, t);
            case 22: return x.functions(f);
            case 23: return x.functionAt(f, any(3));
            case 24: return x.binding(f, t);
            case 25: return x.bindingAnew(f, t);
            case 26: return x.typeOf(f, t);
            case 27: return x.typeErrors();
            case 28: return x.typeErrorAt(any(3));
            case 29: return x.spell(sign());
            case 30: return x.clearName();
            case 31: return x.completions(f, t);
            case 32: return x.completionAt(f, t, any(4));
            case 33: return x.planRename(f, t);
            case 34: return x.planInline(f, t);
            case 35: return x.planMove(f, t, any(3));
            case 36: return x.clearPlan();
            case 37: return x.reason();
            case 38: return x.carryOut();
            default: return x.run(f, any(3), DICE.nextInt(9), DICE.nextInt());
        }
    }

    /** All that can be asked without a change, as one number. */
    private static long state(Syntaxspan x) {
        long p = x.relexed() + 31L * x.reason() + x.typeErrors();
        for (int f = 0; f < 3; f++) {
            p = 31 * p + x.tree(f) + x.errors(f);
            for (int l = 0; l < 8; l++) {
                for (int c = 0; c < x.length(f, l); c++) {
                    p = 31 * p + x.charAt(f, l, c) + x.colour(f, l, c);
                }
                p = 31 * p + x.length(f, l);
            }
            for (int place = 0; place <= x.tokens(f); place += 7) {
                p = 31 * p + x.completions(f, place);
            }
        }
        return p;
    }

    public static void main(String[] args) {
        int faults = 0;
        for (int run = 0; run < 300 && faults < 10; run++) {
            Syntaxspan x = new Syntaxspan();
            for (int i = 0; i < 300; i++) {
                int f = any(3);
                int size = f >= 0 && f < 3 ? x.tokens(f) : 5;
                int what = DICE.nextInt(40);
                long before = i % 5 == 0 ? state(x) : 0;
                try {
                    call(x, what, f, any(size));
                } catch (RuntimeException e) {
                    Class<?> kind = e.getClass();
                    boolean told = kind == IndexOutOfBoundsException.class
                            || kind == IllegalArgumentException.class || kind == IllegalStateException.class;
                    boolean written = e.getStackTrace()[0].getClassName().equals("Syntaxspan");
                    if (!told || !written || i % 5 == 0 && before != state(x)) {
                        faults++;
                        System.out.println("call " + what + " threw " + e);
                        e.printStackTrace(System.out);
                    }
                }
            }
        }
        if (faults > 0) {
            System.exit(1);
        }
    }
}
