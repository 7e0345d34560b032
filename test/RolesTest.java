/** Which ROLE IS which, and what CHAINS give: tried for all there can be, not for some. */
public final class RolesTest {
    private static final Due due = new Due("RolesTest");
    private static final int ROLES = 4;
    private static final int Y = 6;

    public static void main(String[] args) {
        for (int said = 0; said < 1 << 12; said++) {
            rolesSaid(said);
        }
        for (int r = 0; r < ROLES; r++) {
            for (int s = 0; s < ROLES; s++) {
                for (int chain = 0; chain < 64; chain++) {
                    chainSaid(r, s, chain / 16, chain / 4 % 4, chain % 4);
                }
            }
        }
        due.end();
    }

    /**
     * "A ROLE IS another one by AXIOMS 1, by one or more of them, and itself": the bits of the number tell which of the
     * twelve are said. The class 2 + r is paired with the class Y by r alone, so pair() tells what r IS.
     */
    private static void rolesSaid(int said) {
        NotionRounds x = new NotionRounds();
        for (int c = 2; c <= Y; c++) {
            x.make();
        }
        for (int r = 0; r < ROLES; r++) {
            x.say(2 + r, x.has(r, Y));
        }
        boolean[][] is = new boolean[ROLES][ROLES];
        for (int i = 0; i < 12; i++) {
            int r = i / 3;
            int s = i % 3 < r ? i % 3 : i % 3 + 1;
            if ((said >> i & 1) == 1) {
                x.role(r, s);
                is[r][s] = true;
            }
        }
        x.conclude();
        for (int r = 0; r < ROLES; r++) {
            boolean[] reached = new boolean[ROLES];
            reach(is, r, reached);
            for (int s = 0; s < ROLES; s++) {
                String call = "roles said: " + Integer.toBinaryString(said) + ": pair(" + (2 + r) + ", " + s + ", 6)";
                due.is(call, x.pair(2 + r, s, Y), reached[s] ? 1 : 0);
                due.is(call + " by IS", x.is(2 + r, 7 + s) >= 0 ? 1 : 0, reached[s] ? 1 : 0);
            }
        }
    }

    private static void reach(boolean[][] is, int r, boolean[] reached) {
        reached[r] = true;
        for (int s = 0; s < ROLES; s++) {
            if (is[r][s] && !reached[s]) {
                reach(is, s, reached);
            }
        }
    }

    /** 2 is paired with 3 by r, 3 with 4 by s; the one CHAIN p, q, t gives something only if r is p and s is q. */
    private static void chainSaid(int r, int s, int p, int q, int t) {
        String sentence = "an AXIOM CHAIN p, q, t: TO (x, t, z)";
        Talk talk = due.on(sentence).asks("make() = 2, make() = 3, make() = 4, has(" + r + ", 3) = 5, has(" + s + ", 4) = 6")
            .asks("say(2, 5) = 0, say(3, 6) = 1, chain(" + p + ", " + q + ", " + t + ") = 2");
        boolean gives = r == p && s == q;
        // By t, if it is s, 2 is what has some 4.
        int more = !gives ? 0 : t == s ? 2 : 1;
        talk.asks("conclude() = " + (11 + more));
        for (int by = 0; by < ROLES; by++) {
            boolean to = gives && by == t;
            talk.asks("to(2, " + by + ", 4) = " + (to ? "11" : "NONE"), "pair(2, " + by + ", 4) = " + (to ? "1" : "0"));
        }
        talk.asks("holds(2) = 1");
        if (gives) {
            talk.row(11, "1 2 4 " + t + " 4 8 9 10 2");
        }
    }
}
