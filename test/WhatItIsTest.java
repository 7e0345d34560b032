import java.util.ArrayList;
import java.util.List;
import java.util.Random;

/**
 * The document's first sentence, on drawn objects (always the same ones), each part of it by what the other calls
 * tell: no answer is reckoned by a second program here.
 */
public final class WhatItIsTest {
    private static final int OBJECTS = 120;
    private static final int NONE = -1;
    private static final int ROLES = 4;
    private static final int ROWS_OF_ONE = 50;

    private static final Due due = new Due("WhatItIsTest");

    private final String name;
    private final Random random;
    private final List<int[]> made = new ArrayList<>();
    private final boolean[][] has;
    private final boolean[] thing;
    private final boolean[] named;
    private final int notions;
    private final int conclusions;

    private WhatItIsTest(int seed) {
        name = "object " + seed + ": ";
        random = new Random(seed);
        NotionRounds x = draw();
        notions = x.count(0);
        conclusions = x.conclude();
        has = new boolean[notions][notions];
        thing = new boolean[notions];
        named = new boolean[notions];
        for (int n = 0; n < notions; n++) {
            named[n] = x.notion(n, 0) <= 2;
        }
    }

    public static void main(String[] args) {
        readme();
        int broken = 0;
        int dead = 0;
        for (int seed = 0; seed < OBJECTS; seed++) {
            WhatItIsTest test = new WhatItIsTest(seed);
            broken += test.concluded().broken();
            dead += test.anew();
        }
        due.is("some houses are broken, most are not", broken > 0 && broken < OBJECTS / 2 ? 1 : 0, 1);
        due.is("some notions that are BEGUN are no things", dead > 0 ? 1 : 0, 1);
        due.end();
    }

    /** What README.md shows. */
    private static void readme() {
        due.on("README.md, \"How to use it\"").asks("make() = 2, make() = 3, has(0, 3) = 4, say(2, 4) = 0, say(4, 3) = 1")
            .asks("conclude() = 8, under(2, 3) = 1, parent(2, 0) = 3, parent(2, 1) = NONE, is(2, 3) = 6, conclusion(6, 5) = 4")
            .asks("proof(6) = 3");
    }

    /** How many notions are BEGUN, and no things. */
    private int anew() {
        askTheHouse();
        leastHouse();
        allIsSo();
        pairsAreOfThings();
        underAndAlike();
        roundByRound();
        int dead = 0;
        NotionRounds x = concluded();
        for (int n = 0; n < notions; n++) {
            dead += x.is(n, n) != NONE && !thing[n] ? 1 : 0;
        }
        return dead;
    }

    private void so(String what, boolean so) {
        due.is(name + what, so ? 1 : 0, 1);
    }

    // ---- the objects

    /** NOTHING is drawn seldom: else most houses would be broken ones. */
    private NotionRounds draw() {
        NotionRounds x = new NotionRounds();
        int classes = 2 + random.nextInt(8);
        for (int c = 0; c < classes; c++) {
            call(x, 0, 0, 0, 0);
        }
        int others = random.nextInt(19 - classes);
        for (int n = 0; n < others; n++) {
            call(x, 1 + random.nextInt(3) % 2, random.nextInt(ROLES), notion(x), notion(x));
        }
        int axioms = 5 + random.nextInt(20);
        for (int a = 0; a < axioms; a++) {
            int kind = random.nextInt(12);
            if (kind < 9) {
                call(x, 3, 0, notion(x), notion(x));
            } else {
                call(x, kind == 9 ? 4 : 5, random.nextInt(ROLES), random.nextInt(ROLES), random.nextInt(ROLES));
            }
        }
        for (int a = random.nextInt(4); a < x.count(2); a += 1 + random.nextInt(9)) {
            call(x, 6, a, 0, 0);
        }
        return x;
    }

    private int notion(NotionRounds x) {
        int n = random.nextInt(x.count(0));
        return n == 1 && random.nextInt(4) > 0 ? 2 : n;
    }

    private void call(NotionRounds x, int kind, int r, int a, int b) {
        made.add(new int[] {kind, r, a, b});
        again(x, kind, r, a, b);
    }

    private static void again(NotionRounds x, int kind, int r, int a, int b) {
        switch (kind) {
            case 0: x.make(); break;
            case 1: x.has(r, a); break;
            case 2: x.meet(a, b); break;
            case 3: x.say(a, b); break;
            case 4: x.role(r, a); break;
            case 5: x.chain(r, a, b); break;
            default: x.unsay(r); break;
        }
    }

    /** The same object once more: one lives for 512 calls. */
    private NotionRounds concluded() {
        NotionRounds x = new NotionRounds();
        for (int[] call : made) {
            again(x, call[0], call[1], call[2], call[3]);
        }
        x.conclude();
        return x;
    }

    // ---- what holds of each of them

    private void askTheHouse() {
        NotionRounds x = concluded();
        int things = 0;
        for (int n = 0; n < notions; n++) {
            for (int d = 0; d < notions; d++) {
                int answer = x.isOf(n, d);
                has[n][d] = answer == 1;
                thing[n] = answer != NONE;
            }
            things += thing[n] ? 1 : 0;
        }
        due.is(name + "things()", x.things(), things);
    }

    /** "a least house": a thing is of a notion just if that was concluded. */
    private void leastHouse() {
        NotionRounds x = concluded();
        for (int n = 0; n < notions; n++) {
            for (int d = 0; d < notions && thing[n]; d++) {
                so("isOf(" + n + ", " + d + ") is as is() tells", has[n][d] == (x.is(n, d) != NONE));
            }
        }
    }

    /** "in which all that was said is so". */
    private void allIsSo() {
        NotionRounds x = concluded();
        for (int a = 0; a < x.count(2); a++) {
            if (x.axiom(a, 4) == 1) {
                due.is(name + "holds(" + a + "), which was said and not taken back", x.holds(a), 1);
            }
        }
    }

    /** "in any house with things ..: a ROLE any pairs": those of THE HOUSE are of its things, and of each thing that is paired. */
    private void pairsAreOfThings() {
        for (int s = 0; s < ROLES; s++) {
            NotionRounds x = concluded();
            for (int n = 0; n < notions; n++) {
                for (int m = 0; m < notions; m++) {
                    boolean paired = x.pair(n, s, m) == 1;
                    so("pair(" + n + ", " + s + ", " + m + ") is of things", !paired || thing[n] && thing[m]);
                    so("pair() is of all that to() pairs", x.to(n, s, m) == NONE || !thing[n] || paired);
                }
                if (n % 5 == 4) {
                    x = concluded();
                }
            }
        }
    }

    /** "what is under what, what is alike": just what THE HOUSE shows, as it is a least one. */
    private void underAndAlike() {
        NotionRounds x = concluded();
        for (int a = 0; a < notions; a++) {
            int least = NONE;
            for (int b = 0; b < notions && named[a]; b++) {
                if (named[b]) {
                    due.is(name + "under(" + a + ", " + b + ")", x.under(a, b), allOf(a, b) ? 1 : 0);
                    least = least == NONE && allOf(a, b) && allOf(b, a) ? b : least;
                }
            }
            if (named[a]) {
                due.is(name + "like(" + a + ")", x.like(a), least);
                parents(x, a);
            }
        }
    }

    private void parents(NotionRounds x, int a) {
        int before = 0;
        for (int b = 0; b < notions; b++) {
            if (named[b] && isRightUnder(a, b)) {
                due.is(name + "parent(" + a + ", " + before + ")", x.parent(a, before), b);
                before++;
            }
        }
        due.is(name + "parent(" + a + ", " + before + ")", x.parent(a, before), NONE);
    }

    /** Also, that b is the least of those alike. */
    private boolean isRightUnder(int a, int b) {
        boolean right = allOf(a, b) && !allOf(b, a);
        for (int c = 0; c < notions && right; c++) {
            boolean lesserAlike = c < b && allOf(c, b) && allOf(b, c);
            boolean between = allOf(a, c) && allOf(c, b) && !allOf(c, a) && !allOf(b, c);
            right = !named[c] || !lesserAlike && !between;
        }
        return right;
    }

    private boolean allOf(int a, int b) {
        for (int n = 0; n < notions; n++) {
            if (has[n][a] && !has[n][b]) {
                return false;
            }
        }
        return true;
    }

    /** "round by round, each conclusion with the rule and the conclusions that gave it": one of them is of the round right before. */
    private void roundByRound() {
        int[] roundOf = new int[conclusions];
        NotionRounds x = concluded();
        int rounds = x.rounds();
        for (int k = 0; k < conclusions; k++) {
            if (k % ROWS_OF_ONE == 0) {
                x = concluded();
            }
            roundOf[k] = x.conclusion(k, 4);
            int rule = x.conclusion(k, 5);
            int first = x.conclusion(k, 6);
            int second = x.conclusion(k, 7);
            so("conclusion " + k + ": premises ahead of it", first < k && second < k && (first != NONE || second == NONE));
            int before = Math.max(first < 0 ? 0 : roundOf[first], second < 0 ? 0 : roundOf[second]);
            due.is(name + "round of conclusion " + k, roundOf[k], before + 1);
            so("conclusion " + k + ": rounds do not go down", k == 0 || roundOf[k] >= roundOf[k - 1]);
            so("conclusion " + k + ": two premises of 3, 6, 7, 8", (second != NONE) == (rule == 3 || rule >= 6));
            so("conclusion " + k + ": an axiom of 4, 8", (x.conclusion(k, 8) != NONE) == (rule == 4 || rule == 8));
        }
        due.is(name + "rounds()", rounds, roundOf[conclusions - 1]);
    }
}
