/** Promises 25 and 26: count, digest; and what a refusal, or a call that makes nothing, leaves as it was. */
public final class ToldTest {
    private static final int OUTSIDE = -102, STATE = -103, FULL = -104;
    private static final Due due = new Due("ToldTest");

    public static void main(String[] args) {
        count();
        digest();
        whatNeedsConclude();
        refusalsChangeNothing();
        refusalsOfFull();
        due.end();
    }

    private static void count() {
        NotionRounds x = new NotionRounds();
        due.is("count(0)", x.count(0), 2);
        due.is("count(3)", x.count(3), 0);
        due.is("count(4)", x.count(4), 0);
        due.is("count(5)", x.count(5), OUTSIDE);
        due.is("count(-1)", x.count(-1), OUTSIDE);
        due.is("count(MAX)", x.count(Integer.MAX_VALUE), OUTSIDE);
        due.is("count(MIN)", x.count(Integer.MIN_VALUE), OUTSIDE);
        x.make();
        x.make();
        x.meet(2, 3);
        x.has(0, 4);
        x.say(2, 3);
        x.role(0, 1);
        x.chain(0, 1, 2);
        x.unsay(1);
        x.conclude();
        x.conclude();
        due.is("count(0)", x.count(0), 6);
        due.is("count(1)", x.count(1), 2);
        due.is("count(2)", x.count(2), 3);
        due.is("count(3)", x.count(3), 2);
        due.is("count(4)", x.count(4), 2);
    }

    private static long digestOf(int[]... rows) {
        long h = 61;
        for (int[] row : rows) {
            for (int part : row) {
                h = 31 * h + part;
            }
        }
        return h;
    }

    private static void digest() {
        int[] thing = {0, -1, -1};
        int[] nothing = {1, -1, -1};
        int[] made = {2, -1, -1};
        int[] has = {4, 3, 2};
        NotionRounds x = new NotionRounds();
        due.is("digest() of a new object", x.digest(), digestOf(thing, nothing));
        x.make();
        x.has(3, 2);
        x.say(2, 3);
        x.chain(1, 2, 3);
        x.role(0, 1);
        x.unsay(1);
        int[][] said = {thing, nothing, made, has, {0, 2, 3, -1, 1}, {2, 1, 2, 3, 0}, {1, 0, 1, -1, 1}};
        due.is("digest() before conclude()", x.digest(), digestOf(said));
        x.conclude();
        int[][] told = {
            thing, nothing, made, has, {0, 2, 3, -1, 1}, {2, 1, 2, 3, 0}, {1, 0, 1, -1, 1},
            {0, 0, 0, -1, 1, 0, -1, -1, -1},
            {0, 2, 0, -1, 1, 1, -1, -1, -1},
            {0, 2, 2, -1, 1, 0, -1, -1, -1},
            {0, 2, 3, -1, 2, 4, 2, -1, 0},
            {1, 2, 2, 3, 3, 5, 3, -1, -1},
        };
        due.is("digest() after conclude()", x.digest(), digestOf(told));
        x.unsay(2);
        said[6][4] = 0;
        due.is("digest() after unsay()", x.digest(), digestOf(said));
    }

    private static void whatNeedsConclude() {
        NotionRounds x = new NotionRounds();
        x.make();
        x.has(0, 2);
        x.say(2, 3);
        x.conclude();
        x.meet(2, 2);
        x.has(0, 2);
        due.is("rounds() after calls that make nothing", x.rounds(), 3);
        x.meet(2, 0);
        due.is("rounds() after meet()", x.rounds(), STATE);
        x.conclude();
        x.meet(0, 2);
        due.is("rounds() after the meet there is", x.rounds(), 3);
        x.has(1, 2);
        due.is("rounds() after has()", x.rounds(), STATE);
        x.conclude();
        x.say(2, 0);
        due.is("rounds() after say()", x.rounds(), STATE);
        x.conclude();
        x.role(0, 0);
        due.is("rounds() after role()", x.rounds(), STATE);
        x.conclude();
        x.chain(1, 1, 1);
        due.is("rounds() after chain()", x.rounds(), STATE);
        x.conclude();
        x.unsay(3);
        due.is("rounds() after unsay()", x.rounds(), STATE);
        x.conclude();
        x.make();
        due.is("rounds() after make()", x.rounds(), STATE);
        x.conclude();
        due.is("rounds()", x.rounds(), 3);
    }

    private static void refusalsChangeNothing() {
        NotionRounds x = new NotionRounds();
        x.make();
        x.has(0, 2);
        x.say(2, 3);
        x.unsay(0);
        x.conclude();
        long before = x.digest();
        x.meet(0, 9);
        x.has(9, 0);
        x.has(0, 9);
        x.say(0, 9);
        x.say(9, 0);
        x.role(0, 9);
        x.role(9, 0);
        x.chain(0, 0, 9);
        x.unsay(9);
        x.unsay(0);
        x.conclusion(0, 99);
        x.to(0, 9, 0);
        due.is("digest() after refusals", x.digest(), before);
        due.is("rounds() after refusals", x.rounds(), 1);
        due.is("count(0)", x.count(0), 4);
        due.is("count(2)", x.count(2), 1);
        due.is("count(4)", x.count(4), 1);
    }

    private static void refusalsOfFull() {
        NotionRounds x = new NotionRounds();
        for (int c = 0; c < 10; c++) {
            x.make();
        }
        for (int h = 0; h < 8; h++) {
            x.has(0, h);
        }
        for (int a = 0; a < 40; a++) {
            x.say(2, 3);
        }
        x.conclude();
        long before = x.digest();
        due.is("make()", x.make(), FULL);
        due.is("meet(0, 1)", x.meet(0, 1), FULL);
        due.is("has(1, 1)", x.has(1, 1), FULL);
        due.is("say(0, 0)", x.say(0, 0), FULL);
        due.is("role(0, 0)", x.role(0, 0), FULL);
        due.is("chain(0, 0, 0)", x.chain(0, 0, 0), FULL);
        due.is("digest() after FULL", x.digest(), before);
        due.is("rounds() after FULL is no STATE", x.rounds() > 0 ? 1 : 0, 1);
    }
}
