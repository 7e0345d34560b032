import java.util.List;

/** "Refusals, of several the first as told by each call: UNKNOWN, OUTSIDE, STATE, FULL; they change nothing." */
public final class RefusalsTest {
    private static final Due due = new Due("RefusalsTest");

    private static final String MADE = "make() = 2, make() = 3, make() = 4, meet(2, 3) = 5, has(0, 5) = 6, has(1, 4) = 7, "
        + "say(4, 6) = 0, say(2, 1) = 1, role(0, 1) = 2, chain(0, 1, 2) = 3, say(3, 4) = 4, unsay(1) = 1, ";

    public static void main(String[] args) {
        firstOfTwo();
        firstOfThree();
        firstIsFull();
        firstIsStateWhenNoConcludeIsLeft();
        changeNothing("of a new object", "", beyond(2, 0), 2, 0, 0);
        changeNothing("before conclude()", MADE, beyond(8, 5) + STATES, 8, 5, 0);
        changeNothing("behind conclude()", MADE + "conclude() = 31", beyond(8, 5) + WRONG_OF_CONCLUDED, 8, 5, 31);
        changeNothing("behind conclude() and make()", MADE + "conclude() = 31, make() = 8", beyond(9, 5) + STATES, 9, 5, 31);
        changeNothing("of a broken house", MADE + "say(0, 1) = 5, conclude() = 36", beyond(8, 6) + WRONG_OF_CONCLUDED, 8, 6, 36);
        full();
        twentyConcludes();
        due.end();
    }

    // ---- of several the first

    private static void firstOfTwo() {
        String ready = "make() = 2, has(0, 2) = 3, say(2, 3) = 0, conclude() = 5";
        due.on("has: UNKNOWN: a; OUTSIDE: r").asks(ready)
            .each("has(#, 4)", "UNKNOWN", "4", "-1", "MIN", "MAX").each("has(#, -1)", "UNKNOWN", "4", "-1", "MIN", "MAX");
        due.on("notion: UNKNOWN; OUTSIDE").asks(ready)
            .each("notion(4, #)", "UNKNOWN", "3", "-1", "MIN", "MAX").each("notion(-1, #)", "UNKNOWN", "3", "-1", "MIN", "MAX");
        due.on("axiom: UNKNOWN; OUTSIDE").asks(ready)
            .each("axiom(1, #)", "UNKNOWN", "5", "-1", "MIN", "MAX").each("axiom(-1, #)", "UNKNOWN", "5", "-1", "MIN", "MAX");
        due.on("conclusion: UNKNOWN; OUTSIDE").asks(ready)
            .each("conclusion(5, #)", "UNKNOWN", "9", "-1", "MIN", "MAX").each("conclusion(-1, #)", "UNKNOWN", "9", "-1", "MIN");
        due.on("to: UNKNOWN: x, y; OUTSIDE: r").asks(ready)
            .each("to(4, #, 0)", "UNKNOWN", "4", "-1", "MIN", "MAX").each("to(0, #, 4)", "UNKNOWN", "4", "-1", "MIN", "MAX")
            .each("to(-1, #, -1)", "UNKNOWN", "4", "-1", "MIN", "MAX");
        due.on("pair: UNKNOWN: x, y; OUTSIDE: s").asks(ready)
            .each("pair(4, #, 0)", "UNKNOWN", "4", "-1", "MIN", "MAX").each("pair(0, #, 4)", "UNKNOWN", "4", "-1", "MIN", "MAX")
            .each("pair(-1, #, -1)", "UNKNOWN", "4", "-1", "MIN", "MAX");
        due.on("isOf: UNKNOWN ahead of NONE: it is no thing of it").asks(ready)
            .asks("isOf(1, 4) = UNKNOWN, isOf(3, 4) = UNKNOWN, isOf(3, -1) = UNKNOWN, isOf(1, 0) = NONE, isOf(3, 1) = NONE");
        due.on("parent: UNKNOWN ahead of NONE").asks(ready)
            .asks("parent(3, 9) = UNKNOWN, parent(4, -1) = UNKNOWN, parent(2, 9) = NONE, parent(2, -1) = NONE");
    }

    private static void firstOfThree() {
        String stale = "make() = 2, has(0, 2) = 3, say(2, 3) = 0, conclude() = 5, say(2, 2) = 1";
        for (String ready : new String[] {"", "make() = 2, has(0, 2) = 3, say(2, 3) = 0", stale}) {
            due.on("STATE; UNKNOWN; OUTSIDE").asks(ready)
                .asks("rounds() = STATE, broken() = STATE, things() = STATE")
                .asks("conclusion(0, 0) = STATE, conclusion(99, 0) = STATE, conclusion(0, 9) = STATE, conclusion(-1, -1) = STATE")
                .asks("is(0, 0) = STATE, is(-1, 0) = STATE, is(0, 20) = STATE, is(MIN, MAX) = STATE")
                .asks("to(0, 0, 0) = STATE, to(-1, 0, 0) = STATE, to(0, 4, 0) = STATE, to(0, 0, 20) = STATE, to(20, -1, -1) = STATE")
                .asks("proof(0) = STATE, proof(-1) = STATE, proof(MAX) = STATE")
                .asks("under(0, 0) = STATE, under(3, 0) = STATE, under(0, 20) = STATE, under(-1, -1) = STATE")
                .asks("like(0) = STATE, like(3) = STATE, like(20) = STATE, like(-1) = STATE")
                .asks("parent(0, 0) = STATE, parent(3, 0) = STATE, parent(20, -1) = STATE, parent(0, -1) = STATE")
                .asks("isOf(0, 0) = STATE, isOf(1, 0) = STATE, isOf(20, 0) = STATE, isOf(0, -1) = STATE")
                .asks("pair(0, 0, 0) = STATE, pair(-1, 0, 0) = STATE, pair(0, 4, 0) = STATE, pair(0, 4, 20) = STATE")
                .asks("holds(0) = STATE, holds(-1) = STATE, holds(40) = STATE");
        }
        due.on("those that need no conclude() answer ahead of it").asks(stale)
            .asks("notion(2, 0) = 2, axiom(0, 1) = 2, count(0) = 4, meet(2, 2) = 2, has(0, 2) = 3")
            .asks("notion(9, 9) = UNKNOWN, axiom(9, 9) = UNKNOWN, count(9) = OUTSIDE, unsay(9) = UNKNOWN, has(4, 0) = OUTSIDE");
    }

    private static void firstIsFull() {
        Talk t = due.on("UNKNOWN; FULL, and OUTSIDE; FULL").asks("make() = 2, make() = 3");
        for (int n = 4; n < 20; n++) {
            t.asks("has(" + n % 4 + ", " + (n - 1) + ") = " + n);
        }
        for (int a = 0; a < 40; a++) {
            t.asks("say(2, 2) = " + a);
        }
        t.asks("meet(0, 20) = UNKNOWN, meet(20, 0) = UNKNOWN, meet(-1, -1) = UNKNOWN, meet(0, 1) = FULL")
            .asks("has(0, 20) = UNKNOWN, has(4, 20) = UNKNOWN, has(4, 0) = OUTSIDE, has(-1, 0) = OUTSIDE, has(0, 0) = FULL")
            .asks("say(0, 20) = UNKNOWN, say(20, 0) = UNKNOWN, say(-1, -1) = UNKNOWN, say(0, 0) = FULL")
            .asks("role(4, 0) = OUTSIDE, role(0, 4) = OUTSIDE, role(-1, -1) = OUTSIDE, role(0, 0) = FULL")
            .asks("chain(4, 0, 0) = OUTSIDE, chain(0, 4, 0) = OUTSIDE, chain(0, 0, 4) = OUTSIDE, chain(0, 0, 0) = FULL")
            .asks("unsay(40) = UNKNOWN, unsay(39) = 1, unsay(39) = UNKNOWN, make() = FULL");
    }

    private static void firstIsStateWhenNoConcludeIsLeft() {
        Talk t = due.on("STATE, also when conclude() can't mend it any more").asks("make() = 2");
        for (int done = 0; done < 20; done++) {
            t.asks("conclude() = 3");
        }
        t.asks("conclude() = STATE, is(2, 0) = 1, is(3, 0) = UNKNOWN, to(0, 4, 0) = OUTSIDE, say(2, 0) = 0")
            .asks("is(2, 0) = STATE, is(3, 0) = STATE, to(0, 4, 0) = STATE, conclude() = STATE, is(2, 0) = STATE, like(9) = STATE");
    }

    // ---- they change nothing

    private static final String STATES = "rounds() = STATE, conclusion(0, 0) = STATE, is(0, 0) = STATE, to(0, 0, 0) = STATE, "
        + "proof(0) = STATE, under(0, 0) = STATE, like(0) = STATE, parent(0, 0) = STATE, broken() = STATE, things() = STATE, "
        + "isOf(0, 0) = STATE, pair(0, 0, 0) = STATE, holds(0) = STATE, ";
    private static final String WRONG_OF_CONCLUDED = "conclusion(-1, 0) = UNKNOWN, conclusion(0, 9) = OUTSIDE, is(0, -1) = UNKNOWN, "
        + "to(-1, 0, 0) = UNKNOWN, to(0, 4, 0) = OUTSIDE, proof(MAX) = UNKNOWN, under(6, 0) = UNKNOWN, like(5) = UNKNOWN, "
        + "parent(-1, 0) = UNKNOWN, isOf(0, 20) = UNKNOWN, pair(0, 4, 0) = OUTSIDE, pair(20, 0, 0) = UNKNOWN, holds(40) = UNKNOWN, ";

    /** What each call refuses because a number is wrong. */
    private static String beyond(int notions, int axioms) {
        String calls = "meet(0, #) = UNKNOWN, meet(#, 0) = UNKNOWN, meet(-1, -1) = UNKNOWN, has(0, #) = UNKNOWN, has(4, 0) = OUTSIDE, "
            + "has(-1, #) = UNKNOWN, has(MAX, 1) = OUTSIDE, say(0, #) = UNKNOWN, say(#, 0) = UNKNOWN, say(MIN, MAX) = UNKNOWN, "
            + "role(4, 0) = OUTSIDE, role(0, -1) = OUTSIDE, chain(4, 0, 0) = OUTSIDE, chain(0, MAX, 0) = OUTSIDE, "
            + "chain(0, 0, MIN) = OUTSIDE, unsay(@) = UNKNOWN, unsay(-1) = UNKNOWN, notion(#, 0) = UNKNOWN, notion(0, 3) = OUTSIDE, "
            + "axiom(@, 0) = UNKNOWN, count(5) = OUTSIDE, count(-1) = OUTSIDE, ";
        String taken = axioms > 0 ? "axiom(0, 5) = OUTSIDE, unsay(1) = UNKNOWN, unsay(1) = UNKNOWN, " : "";
        return calls.replace("#", "" + notions).replace("@", "" + axioms) + taken;
    }

    private static void changeNothing(String when, String made, String refused, int notions, int axioms, int conclusions) {
        changeNothing(when, made, refused, Tells.all(notions, axioms, conclusions), 200);
        String more = "make(), meet(0, 1), has(3, 0), say(0, 0), role(3, 0), chain(3, 3, 0), unsay(" + axioms + "), conclude(), digest()";
        goOn(when, made, refused, more);
    }

    /** An object lives for 512 calls: all that it tells is asked of many objects, a part of each, ahead of the refusals and behind. */
    private static void changeNothing(String when, String made, String refused, List<String> tells, int part) {
        for (int from = 0; from < tells.size(); from += part) {
            List<String> some = tells.subList(from, Math.min(tells.size(), from + part));
            Talk t = due.on("they change nothing: " + when).asks(made);
            long[] ahead = new long[some.size()];
            for (int i = 0; i < ahead.length; i++) {
                ahead[i] = t.answer(some.get(i));
            }
            t.asks(refused);
            for (int i = 0; i < ahead.length; i++) {
                t.is(some.get(i), ahead[i]);
            }
        }
    }

    /** What is made behind refusals is numbered, and concluded, as if they had not been. */
    private static void goOn(String when, String made, String refused, String more) {
        Talk plain = due.on("ready").asks(made);
        Talk t = due.on("they change nothing: what is made later on, " + when).asks(made).asks(refused);
        for (String call : more.split("(?<=\\)), ")) {
            t.is(call, plain.answer(call));
        }
    }

    private static void full() {
        StringBuilder made = new StringBuilder("make(), make(), meet(2, 3), ");
        for (int n = 5; n < 20; n++) {
            made.append("has(").append(n % 4).append(", ").append(n - 1).append("), ");
        }
        for (int a = 0; a < 40; a++) {
            String said = a < 30 ? "say(" + (a % 2 + 2) + ", " + (a % 18 + 2) + "), " : a < 35 ? "role(0, 1), " : "chain(1, 2, 3), ";
            made.append(said);
        }
        made.append("unsay(1), conclude() = 187");
        String fulls = "make() = FULL, meet(0, 1) = FULL, has(2, 0) = FULL, say(0, 0) = FULL, role(0, 0) = FULL, chain(0, 0, 0) = FULL, ";
        changeNothing("of a full object", made.toString(), beyond(20, 40) + fulls, Tells.all(20, 40, 187), 190);
        goOn("of a full object", made.toString(), beyond(20, 40) + fulls, "unsay(39), conclude(), digest(), things()");
        String classes = "make(), ".repeat(10);
        changeNothing("with 10 CLASSES", classes + "conclude() = 21", "make() = FULL, make() = FULL", Tells.all(12, 0, 21), 240);
        goOn("with 10 CLASSES", classes, "make() = FULL, make() = FULL", "has(0, 0), meet(0, 1), say(2, 3), conclude(), digest()");
    }

    private static void twentyConcludes() {
        String done = MADE + "conclude(), ".repeat(20);
        changeNothing("behind 20 times conclude()", done, "conclude() = STATE, conclude() = STATE", Tells.all(8, 5, 31), 220);
        changeNothing("behind 20 times conclude(), and make()", done + "make()", "conclude() = STATE, conclude() = STATE",
            Tells.all(9, 5, 31), 220);
        goOn("behind 20 times conclude()", done, "conclude() = STATE", "rounds(), digest(), say(2, 3), rounds(), digest(), count(4)");
    }
}
