/** Promises 21 to 24: things, isOf, pair, holds. */
public final class HouseTest {
    private static final int NONE = -1, UNKNOWN = -101, OUTSIDE = -102, STATE = -103;
    private static final Due due = new Due("HouseTest");

    public static void main(String[] args) {
        small();
        deadClass();
        ofByMeaning();
        takenBackNotions();
        takenBackRoles();
        takenBackChain();
        deadIsNotPaired();
        thingIsAThing();
        thingInChains();
        builtAnew();
        allOfTwenty();
        refusals();
        due.end();
    }

    private static void small() {
        NotionRounds x = new NotionRounds();
        due.is("things() before conclude()", x.things(), STATE);
        x.conclude();
        due.is("things() of a new object", x.things(), 1);
        due.is("isOf(0, 0)", x.isOf(0, 0), 1);
        due.is("isOf(0, 1)", x.isOf(0, 1), 0);
        due.is("isOf(1, 0): NOTHING is not begun", x.isOf(1, 0), NONE);
        x.make();
        x.has(0, 2);
        x.conclude();
        due.is("things()", x.things(), 2);
        due.is("isOf(3, 0): not begun", x.isOf(3, 0), NONE);
        x.has(1, 3);
        x.say(2, 4);
        x.conclude();
        due.is("things() with a HAS that is begun", x.things(), 3);
        due.is("isOf(3, 3)", x.isOf(3, 3), 1);
        due.is("isOf(2, 4)", x.isOf(2, 4), 1);
        due.is("pair(2, 1, 3)", x.pair(2, 1, 3), 1);
        due.is("pair(3, 0, 2)", x.pair(3, 0, 2), 1);
        due.is("pair(2, 0, 3)", x.pair(2, 0, 3), 0);
        due.is("pair(3, 1, 2)", x.pair(3, 1, 2), 0);
    }

    private static void deadClass() {
        NotionRounds x = new NotionRounds();
        x.make();
        x.make();
        x.say(2, 1);
        x.say(2, 3);
        x.conclude();
        due.is("things()", x.things(), 2);
        due.is("isOf(2, 3)", x.isOf(2, 3), NONE);
        due.is("isOf(2, 2)", x.isOf(2, 2), NONE);
        due.is("isOf(3, 3)", x.isOf(3, 3), 1);
        due.is("isOf(3, 2)", x.isOf(3, 2), 0);
        due.is("holds(0)", x.holds(0), 1);
        due.is("holds(1)", x.holds(1), 1);
    }

    /** What has something of a meet is told by the house, not by IS: no such notion need be concluded. */
    private static void ofByMeaning() {
        NotionRounds x = new NotionRounds();
        x.make();
        x.make();
        x.make();
        x.has(0, 3);
        x.has(0, 4);
        x.say(2, 5);
        x.say(3, 4);
        int both = x.meet(3, 4);
        int hasBoth = x.has(0, both);
        int hasNothing = x.has(0, 1);
        int nested = x.has(1, hasBoth);
        x.conclude();
        due.is("isOf(3, meet)", x.isOf(3, both), 1);
        due.is("isOf(4, meet): no 3", x.isOf(4, both), 0);
        due.is("isOf(2, meet): neither", x.isOf(2, both), 0);
        int other = x.meet(2, 3);
        x.conclude();
        due.is("isOf(2, other meet): no 3", x.isOf(2, other), 0);
        due.is("isOf(3, other meet): no 2", x.isOf(3, other), 0);
        due.is("isOf(2, has meet)", x.isOf(2, hasBoth), 1);
        due.is("isOf(3, has meet)", x.isOf(3, hasBoth), 0);
        due.is("isOf(2, has NOTHING)", x.isOf(2, hasNothing), 0);
        due.is("isOf(2, nested)", x.isOf(2, nested), 0);
        due.is("isOf(2, 6)", x.isOf(2, 6), 1);
        x.role(0, 1);
        x.say(4, nested);
        x.conclude();
        due.is("isOf(4, nested)", x.isOf(4, nested), 1);
        due.is("pair(4, 1, has meet)", x.pair(4, 1, hasBoth), 1);
        due.is("pair(2, 1, 3) by the role", x.pair(2, 1, 3), 1);
        due.is("pair(2, 2, 3)", x.pair(2, 2, 3), 0);
        due.is("pair(2, 0, 3)", x.pair(2, 0, 3), 1);
        due.is("pair(4, 0, has meet): not backwards", x.pair(4, 0, hasBoth), 0);
    }

    private static void takenBackNotions() {
        NotionRounds x = new NotionRounds();
        x.make();
        x.make();
        x.say(2, 3);
        x.say(3, 1);
        x.unsay(0);
        x.unsay(1);
        due.is("holds(0) before conclude()", x.holds(0), STATE);
        x.conclude();
        due.is("holds(0): 2 is no 3 now", x.holds(0), 0);
        due.is("holds(1): 3 is a thing now", x.holds(1), 0);
        x.say(2, 3);
        x.conclude();
        due.is("holds(0): it is so by another one", x.holds(0), 1);
        due.is("holds(2)", x.holds(2), 1);
        x.say(3, 1);
        x.conclude();
        due.is("holds(1): there is no 3", x.holds(1), 1);
    }

    private static void takenBackRoles() {
        NotionRounds x = new NotionRounds();
        x.make();
        x.has(0, 2);
        x.say(2, 3);
        x.role(0, 1);
        x.role(1, 0);
        x.role(2, 3);
        x.unsay(1);
        x.unsay(2);
        x.unsay(3);
        x.conclude();
        due.is("holds(1): paired by 0, not by 1", x.holds(1), 0);
        due.is("holds(2): nothing is paired by 1", x.holds(2), 1);
        due.is("holds(3): nothing is paired by 2", x.holds(3), 1);
    }

    private static void takenBackChain() {
        NotionRounds x = new NotionRounds();
        x.make();
        x.make();
        x.make();
        x.has(0, 3);
        x.has(1, 4);
        x.say(2, 5);
        x.say(3, 6);
        x.chain(0, 1, 2);
        x.chain(1, 0, 2);
        x.unsay(2);
        x.unsay(3);
        x.conclude();
        due.is("holds(2): 2 to 4 is no pair by 2", x.holds(2), 0);
        due.is("holds(3): there is no way by 1, then 0", x.holds(3), 1);
        due.is("pair(2, 2, 4)", x.pair(2, 2, 4), 0);
        x.chain(0, 1, 2);
        x.conclude();
        due.is("holds(2): it is so by another one", x.holds(2), 1);
        due.is("pair(2, 2, 4)", x.pair(2, 2, 4), 1);
        due.is("pair(2, 0, 4)", x.pair(2, 0, 4), 0);
    }

    /** TO (2, 0, 3) is there, but 2 is no thing of the house: the house's pairs are of its things. */
    private static void deadIsNotPaired() {
        NotionRounds x = new NotionRounds();
        x.make();
        x.make();
        x.has(0, 3);
        x.say(2, 4);
        x.say(2, 1);
        x.role(0, 1);
        x.unsay(2);
        x.conclude();
        due.is("to(2, 0, 3) is there", x.to(2, 0, 3) >= 0 ? 1 : 0, 1);
        due.is("isOf(2, 0)", x.isOf(2, 0), NONE);
        due.is("pair(2, 0, 3)", x.pair(2, 0, 3), 0);
        due.is("holds(2)", x.holds(2), 1);
        x.unsay(1);
        x.conclude();
        due.is("pair(2, 0, 3) when 2 is a thing", x.pair(2, 0, 3), 1);
        due.is("holds(2) then", x.holds(2), 0);
    }

    /** THING has something of itself by 0; what was said first is of roles. */
    private static void thingIsAThing() {
        NotionRounds x = new NotionRounds();
        x.role(0, 1);
        x.make();
        x.has(0, 0);
        x.say(0, 3);
        x.say(0, 2);
        x.role(0, 2);
        x.unsay(3);
        x.conclude();
        due.is("things()", x.things(), 2);
        due.is("isOf(0, 2)", x.isOf(0, 2), 1);
        due.is("isOf(0, 3)", x.isOf(0, 3), 1);
        due.is("pair(0, 0, 0)", x.pair(0, 0, 0), 1);
        due.is("pair(0, 1, 0)", x.pair(0, 1, 0), 1);
        due.is("pair(0, 2, 0)", x.pair(0, 2, 0), 0);
        due.is("pair(2, 1, 0)", x.pair(2, 1, 0), 1);
        due.is("pair(0, 1, 2)", x.pair(0, 1, 2), 0);
        due.is("holds(0)", x.holds(0), 1);
        due.is("holds(3): THING is paired by 0, not by 2", x.holds(3), 0);
    }

    private static void thingInChains() {
        NotionRounds x = new NotionRounds();
        x.chain(0, 0, 1);
        x.chain(0, 0, 2);
        x.has(0, 0);
        x.say(0, 2);
        x.unsay(1);
        x.conclude();
        due.is("to(0, 1, 0)", x.to(0, 1, 0) >= 0 ? 1 : 0, 1);
        due.is("pair(0, 1, 0)", x.pair(0, 1, 0), 1);
        due.is("pair(0, 2, 0)", x.pair(0, 2, 0), 0);
        due.is("holds(0)", x.holds(0), 1);
        due.is("holds(1)", x.holds(1), 0);
        x.role(0, 3);
        x.unsay(3);
        x.unsay(0);
        x.conclude();
        due.is("holds(0) when it was taken back", x.holds(0), 0);
        due.is("holds(3): THING alone is paired by 0, not by 3", x.holds(3), 0);
    }

    private static void builtAnew() {
        NotionRounds x = new NotionRounds();
        x.make();
        x.make();
        x.has(0, 3);
        x.say(2, 4);
        x.role(0, 3);
        x.say(2, 3);
        x.conclude();
        due.is("pair(2, 0, 3)", x.pair(2, 0, 3), 1);
        due.is("pair(2, 3, 3)", x.pair(2, 3, 3), 1);
        due.is("isOf(2, 3)", x.isOf(2, 3), 1);
        x.unsay(1);
        x.unsay(2);
        x.conclude();
        due.is("pair(2, 3, 3) without the role", x.pair(2, 3, 3), 0);
        due.is("isOf(2, 3) without its axiom", x.isOf(2, 3), 0);
        x.unsay(0);
        x.conclude();
        due.is("pair(2, 0, 3) without what it has", x.pair(2, 0, 3), 0);
        due.is("isOf(2, 4)", x.isOf(2, 4), 0);
        x.say(0, 1);
        x.conclude();
        due.is("things() of a broken house", x.things(), 0);
        due.is("isOf(0, 0)", x.isOf(0, 0), NONE);
        due.is("holds(0): there is nothing", x.holds(0), 1);
    }

    /** Twenty notions, forty axioms, and all four roles in use. */
    private static void allOfTwenty() {
        NotionRounds x = new NotionRounds();
        for (int c = 0; c < 10; c++) {
            x.make();
        }
        for (int h = 0; h < 8; h++) {
            due.is("has", x.has(h % 4, h + 4), 12 + h);
        }
        for (int c = 2; c < 10; c++) {
            x.say(c, c + 10);
            x.say(c + 10, c + 1);
        }
        for (int i = 0; i < 24; i++) {
            int got = i < 4 ? x.role(i, (i + 1) % 4) : x.chain(i % 4, i / 4 % 4, i / 2 % 4);
            due.is("axiom", got, 16 + i);
        }
        x.conclude();
        int things = 0;
        for (int n = 0; n < 20; n++) {
            things += x.isOf(n, 0) == 1 ? 1 : 0;
        }
        due.is("things()", x.things(), things);
        due.is("broken()", x.broken(), 0);
        for (int a = 0; a < 40; a++) {
            due.is("holds(" + a + "): all that was said is so", x.holds(a), 1);
        }
    }

    private static void refusals() {
        NotionRounds x = new NotionRounds();
        x.make();
        x.say(2, 0);
        due.is("isOf(9, 9) before conclude()", x.isOf(9, 9), STATE);
        due.is("pair(9, 9, 9) before conclude()", x.pair(9, 9, 9), STATE);
        due.is("holds(9) before conclude()", x.holds(9), STATE);
        x.conclude();
        due.is("isOf(3, 0)", x.isOf(3, 0), UNKNOWN);
        due.is("isOf(0, 3)", x.isOf(0, 3), UNKNOWN);
        due.is("isOf(1, 3): UNKNOWN, though 1 is no thing", x.isOf(1, 3), UNKNOWN);
        due.is("isOf(0, MIN)", x.isOf(0, Integer.MIN_VALUE), UNKNOWN);
        due.is("pair(3, 0, 0)", x.pair(3, 0, 0), UNKNOWN);
        due.is("pair(0, 0, 3)", x.pair(0, 0, 3), UNKNOWN);
        due.is("pair(0, 4, -1): UNKNOWN is told first", x.pair(0, 4, -1), UNKNOWN);
        due.is("pair(0, 4, 0)", x.pair(0, 4, 0), OUTSIDE);
        due.is("pair(0, -1, 0)", x.pair(0, -1, 0), OUTSIDE);
        due.is("pair(0, MAX, 0)", x.pair(0, Integer.MAX_VALUE, 0), OUTSIDE);
        due.is("holds(1)", x.holds(1), UNKNOWN);
        due.is("holds(-1)", x.holds(-1), UNKNOWN);
        due.is("holds(MAX)", x.holds(Integer.MAX_VALUE), UNKNOWN);
    }
}
