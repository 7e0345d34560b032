import java.util.Arrays;

/** Runs of calls, the same ones on the program and on SlowRounds: each answer must be alike. */
public final class SlowTest {
    private static final int RUNS = 240;
    private static final int CALLS = 512;
    private static final int[] ODD = {-1, 4, 5, 20, 21, 40, 63, Integer.MIN_VALUE, Integer.MAX_VALUE};
    private static final String[] TELLING = {
        "notion", "axiom", "rounds", "things", "conclusion", "is", "to", "proof", "under", "like", "parent", "broken",
        "count", "isOf", "pair", "holds"
    };

    private static final Due due = new Due("SlowTest");
    private static long state = 1;

    private final int run;
    private final NotionRounds x = new NotionRounds();
    private final SlowRounds y = new SlowRounds();
    private int calls = 0;

    private SlowTest(int run) {
        this.run = run;
    }

    public static void main(String[] args) {
        for (int run = 0; run < RUNS; run++) {
            state = 7919L * run + 17;
            new SlowTest(run).ask();
        }
        due.end();
    }

    /** The runs differ in what they make most, so that none of the rules stays rare. */
    private void ask() {
        int rich = draw(8);
        while (calls < CALLS) {
            int kind = draw(100);
            if (kind < 25) {
                build(draw(10) < 4 ? rich : draw(8));
            } else if (kind < 29) {
                alike("conclude");
                alike("digest");
            } else {
                tell(TELLING[draw(TELLING.length)]);
            }
        }
    }

    private void alike(String name, int... given) {
        calls++;
        if (calls <= CALLS) {
            String call = "run " + run + ", call " + calls + ": " + name + Arrays.toString(given);
            due.is(call, Call.on(x, name, given), Call.on(y, name, given));
        }
    }

    private void build(int kind) {
        switch (kind) {
            case 0: alike("make"); break;
            case 1: alike("meet", notion(), notion()); break;
            case 2: alike("has", role(), notion()); break;
            case 3:
            case 4: alike("say", notion(), notion()); break;
            case 5: alike("role", role(), role()); break;
            case 6: alike("chain", role(), role(), role()); break;
            default: alike("unsay", axiom()); break;
        }
    }

    private void tell(String name) {
        switch (name) {
            case "notion": alike(name, notion(), number(4)); break;
            case "axiom": alike(name, axiom(), number(6)); break;
            case "conclusion": alike(name, conclusion(), number(10)); break;
            case "proof": alike(name, conclusion()); break;
            case "like": alike(name, notion()); break;
            case "parent": alike(name, notion(), draw(6) - 1); break;
            case "holds": alike(name, axiom()); break;
            case "count": alike(name, number(6)); break;
            case "to":
            case "pair": alike(name, notion(), role(), notion()); break;
            case "is":
            case "under":
            case "isOf": alike(name, notion(), notion()); break;
            default: alike(name); break;
        }
    }

    /** NOTHING is drawn seldom: else most houses would be broken ones. */
    private int notion() {
        int n = number(y.count(0));
        return n == 1 && draw(5) > 0 ? y.count(0) - 1 : n;
    }

    private int axiom() {
        return number(y.count(2));
    }

    private int conclusion() {
        return number(Math.max(1, y.toldSize()));
    }

    private static int role() {
        return number(4);
    }

    /** A number below the bound, or now and then one that names nothing. */
    private static int number(int bound) {
        return bound == 0 || draw(20) == 0 ? ODD[draw(ODD.length)] : draw(bound);
    }

    private static int draw(int bound) {
        state = state * 6364136223846793005L + 1442695040888963407L;
        return (int) ((state >>> 33) % bound);
    }
}
