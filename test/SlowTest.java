/** Runs of calls, the same ones on the program and on SlowRounds: each answer must be alike. */
public final class SlowTest {
    private static final int RUNS = 300;
    private static final int CALLS = 512;
    private static final int[] ODD = {-1, 4, 5, 20, 21, 40, 63, Integer.MIN_VALUE, Integer.MAX_VALUE};

    private static final Due due = new Due("SlowTest");
    private static long state = 1;

    public static void main(String[] args) {
        for (int run = 0; run < RUNS; run++) {
            state = 7919L * run + 17;
            NotionRounds x = new NotionRounds();
            SlowRounds y = new SlowRounds();
            int rich = draw(8);
            for (int call = 0; call < CALLS; call++) {
                oneCall("run " + run + ", call " + call, x, y, rich);
            }
        }
        due.end();
    }

    /** The runs differ in what they make most, so that none of the rules stays rare. */
    private static void oneCall(String at, NotionRounds x, SlowRounds y, int rich) {
        int kind = draw(100);
        if (kind < 25) {
            building(at, x, y, draw(10) < 4 ? rich : draw(8));
        } else if (kind < 29) {
            due.is(at + ": conclude()", x.conclude(), y.conclude());
            due.is(at + ": digest()", x.digest(), y.digest());
        } else {
            asking(at, x, y, draw(14));
        }
    }

    private static void building(String at, NotionRounds x, SlowRounds y, int kind) {
        int a = notion(y);
        int b = notion(y);
        int r = role();
        int s = role();
        int t = role();
        switch (kind) {
            case 0:
                due.is(at + ": make()", x.make(), y.make());
                break;
            case 1:
                due.is(at + ": meet(" + a + ", " + b + ")", x.meet(a, b), y.meet(a, b));
                break;
            case 2:
                due.is(at + ": has(" + r + ", " + a + ")", x.has(r, a), y.has(r, a));
                break;
            case 3:
            case 4:
                due.is(at + ": say(" + a + ", " + b + ")", x.say(a, b), y.say(a, b));
                break;
            case 5:
                due.is(at + ": role(" + r + ", " + s + ")", x.role(r, s), y.role(r, s));
                break;
            case 6:
                due.is(at + ": chain(" + r + ", " + s + ", " + t + ")", x.chain(r, s, t), y.chain(r, s, t));
                break;
            default:
                a = number(y.count(2));
                due.is(at + ": unsay(" + a + ")", x.unsay(a), y.unsay(a));
                break;
        }
    }

    private static void asking(String at, NotionRounds x, SlowRounds y, int kind) {
        int a = notion(y);
        int b = notion(y);
        int r = role();
        int k = number(Math.max(1, y.toldSize()));
        int what = number(9);
        int axiom = number(y.count(2));
        switch (kind) {
            case 0:
                due.is(at + ": notion(" + a + ", " + what + ")", x.notion(a, what), y.notion(a, what));
                break;
            case 1:
                due.is(at + ": axiom(" + axiom + ", " + what + ")", x.axiom(axiom, what), y.axiom(axiom, what));
                break;
            case 2:
                due.is(at + ": rounds()", x.rounds(), y.rounds());
                due.is(at + ": things()", x.things(), y.things());
                break;
            case 3:
                due.is(at + ": conclusion(" + k + ", " + what + ")", x.conclusion(k, what), y.conclusion(k, what));
                break;
            case 4:
                due.is(at + ": is(" + a + ", " + b + ")", x.is(a, b), y.is(a, b));
                break;
            case 5:
                due.is(at + ": to(" + a + ", " + r + ", " + b + ")", x.to(a, r, b), y.to(a, r, b));
                break;
            case 6:
                due.is(at + ": proof(" + k + ")", x.proof(k), y.proof(k));
                break;
            case 7:
                due.is(at + ": under(" + a + ", " + b + ")", x.under(a, b), y.under(a, b));
                break;
            case 8:
                due.is(at + ": like(" + a + ")", x.like(a), y.like(a));
                break;
            case 9:
                what = draw(6) - 1;
                due.is(at + ": parent(" + a + ", " + what + ")", x.parent(a, what), y.parent(a, what));
                break;
            case 10:
                due.is(at + ": broken()", x.broken(), y.broken());
                due.is(at + ": count(" + what + ")", x.count(what), y.count(what));
                break;
            case 11:
                due.is(at + ": isOf(" + a + ", " + b + ")", x.isOf(a, b), y.isOf(a, b));
                break;
            case 12:
                due.is(at + ": pair(" + a + ", " + r + ", " + b + ")", x.pair(a, r, b), y.pair(a, r, b));
                break;
            default:
                due.is(at + ": holds(" + axiom + ")", x.holds(axiom), y.holds(axiom));
                break;
        }
    }

    /** NOTHING is drawn seldom: else most houses would be broken ones. */
    private static int notion(SlowRounds y) {
        int n = number(y.count(0));
        return n == 1 && draw(5) > 0 ? y.count(0) - 1 : n;
    }

    private static int role() {
        return number(4);
    }

    /** A number below the bound, or now and then one that names nothing. */
    private static int number(int bound) {
        return bound == 0 || draw(20) == 0 ? ODD[draw(ODD.length)] : draw(bound);
    }

    private static int draw(int bound) {
        state = state * 6364136223846793005L + 1442695040888963407L;
        return (int) ((state >>> 33) % bound);
    }
}
