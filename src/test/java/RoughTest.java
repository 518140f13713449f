import java.util.Random;

/**
 * Calls with any arguments, right and wrong: only the exceptions of the document come, and these change nothing: a
 * twin that gets all calls but the refused ones answers the same. No object is asked more than 512 calls.
 */
public final class RoughTest {
    private static final Random DICE = new Random(5);
    private static int faults;

    private static int any(int size) {
        int k = DICE.nextInt(40);
        return k == 0 ? -1 : k == 1 ? size : k == 2 ? Integer.MIN_VALUE : k == 3 ? Integer.MAX_VALUE
                : k == 4 ? DICE.nextInt() : DICE.nextInt(Math.max(1, size));
    }

    private static char sign() {
        String usual = "fnx yletr(){},;=<+-*!/12q";
        int k = DICE.nextInt(30);
        return k == 0 ? (char) DICE.nextInt(65536) : k == 1 ? (char) 31 : usual.charAt(DICE.nextInt(usual.length()));
    }

    /** The numbers for one call: what it is, its file, a token, a line, a column, a small number, a sign, and values. */
    private static int[] draw(Syntaxspan x) {
        int f = any(3);
        int size = f >= 0 && f < 3 ? x.tokens(f) : 5;
        return new int[] {DICE.nextInt(40), f, any(size), any(8), any(20), any(DICE.nextInt(4) + 1), sign(),
            DICE.nextInt(9), DICE.nextInt(), any(24)};
    }

    private static long call(Syntaxspan x, int[] n) {
        int f = n[1];
        int t = n[2];
        switch (n[0]) {
            case 0: return x.insert(f, n[3], n[4], (char) n[6]);
            case 1: return x.erase(f, n[3], n[4]);
            case 2: case 3: case 4: return x.paste(f, n[3], n[9]);
            case 5: return x.clear(f, n[3]);
            case 6: return x.save(f);
            case 7: return x.back(f);
            case 8: return x.charAt(f, n[3], n[4]);
            case 9: return x.length(f, n[3]);
            case 10: return x.relexed();
            case 11: return x.tokens(f);
            case 12: return x.token(f, t);
            case 13: return x.tokenAnew(f, t);
            case 14: return x.colour(f, n[3], n[4]);
            case 15: return x.partner(f, t);
            case 16: return x.fold(f, n[3]);
            case 17: return x.errors(f);
            case 18: return x.errorAt(f, n[5]);
            case 19: return x.repair(f, n[5]);
            case 20: return x.tree(f);
            case 21: return x.may(f, t);
            case 22: return x.functions(f);
            case 23: return x.functionAt(f, n[5]);
            case 24: return x.binding(f, t);
            case 25: return x.bindingAnew(f, t);
            case 26: return x.typeOf(f, t);
            case 27: return x.typeErrors();
            case 28: return x.typeErrorAt(n[5]);
            case 29: return x.spell((char) n[6]);
            case 30: return x.clearName();
            case 31: return x.completions(f, t);
            case 32: return x.completionAt(f, t, n[5]);
            case 33: return x.planRename(f, t);
            case 34: return x.planInline(f, t);
            case 35: return x.planMove(f, t, n[5]);
            case 36: return x.clearPlan();
            case 37: return x.reason();
            case 38: return x.carryOut();
            default: return x.run(f, n[5], n[7], n[8]);
        }
    }

    /** Much of what can be asked, in fewer than 200 calls. */
    private static String state(Syntaxspan x) {
        StringBuilder s = new StringBuilder();
        s.append(x.relexed()).append(' ').append(x.reason()).append(' ').append(x.typeErrors());
        for (int f = 0; f < 3; f++) {
            s.append('|').append(x.tree(f)).append(' ').append(x.errors(f)).append(' ').append(x.functions(f));
            int tokens = x.tokens(f);
            for (int i = 0; i < 12 && i < tokens; i++) {
                int token = i * Math.max(1, tokens / 12);
                s.append(' ').append(x.token(f, token)).append(' ').append(x.binding(f, token));
            }
            s.append(' ').append(x.completions(f, tokens / 2));
            for (int l = 0; l < 8; l++) {
                s.append('/').append(x.length(f, l));
            }
        }
        s.append(x.clearPlan()).append(' ').append(x.clearName());
        for (int f = 0; f < 3; f++) {
            s.append(' ').append(x.save(f));
        }
        return s.toString();
    }

    private static boolean goes(Syntaxspan x, int[] numbers) {
        try {
            call(x, numbers);
            return true;
        } catch (RuntimeException e) {
            Class<?> kind = e.getClass();
            boolean told = kind == IndexOutOfBoundsException.class || kind == IllegalArgumentException.class
                    || kind == IllegalStateException.class;
            if (!told || !e.getStackTrace()[0].getClassName().equals("Syntaxspan")) {
                faults++;
                System.out.println("call " + numbers[0] + " threw " + e);
            }
            return false;
        }
    }

    public static void main(String[] args) {
        for (int run = 0; run < 2000 && faults < 10; run++) {
            Syntaxspan x = new Syntaxspan();
            Syntaxspan twin = new Syntaxspan();
            for (int i = 0; i < 150; i++) {
                int[] numbers = draw(x);
                if (goes(x, numbers)) {
                    goes(twin, numbers);
                }
            }
            if (!state(x).equals(state(twin))) {
                faults++;
                System.out.println("run " + run + ": a call that threw changed something");
            }
        }
        if (faults > 0) {
            System.exit(1);
        }
    }
}
