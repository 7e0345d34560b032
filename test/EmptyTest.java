/** What is empty: a new object, before the first conclude(), conclusions with no AXIOM, a house with no things. */
public final class EmptyTest {
    private static final Due due = new Due("EmptyTest");

    public static void main(String[] args) {
        newObject();
        beforeTheFirstConclude();
        concludeOfANewObject();
        noAxiom();
        allAxiomsTakenBack();
        noThings();
        noThingsByALongWay();
        noPairs();
        due.end();
    }

    private static void newObject() {
        due.on("NotionRounds(): THING, NOTHING; no AXIOMS")
            .asks("count(0) = 2, count(1) = 0, count(2) = 0, count(3) = 0, count(4) = 0")
            .asks("notion(0, 0) = 0, notion(0, 1) = NONE, notion(0, 2) = NONE, notion(1, 0) = 1, notion(1, 1) = NONE, notion(1, 2) = NONE")
            .asks("notion(2, 0) = UNKNOWN, axiom(0, 0) = UNKNOWN, unsay(0) = UNKNOWN, rounds() = STATE, digest() = 54136772158");
        due.on("the first of each").asks("make() = 2");
        due.on("the first of each").asks("meet(1, 0) = 2");
        due.on("the first of each").asks("has(0, 1) = 2");
        due.on("the first of each").asks("say(0, 1) = 0");
        due.on("the first of each").asks("role(0, 0) = 0");
        due.on("the first of each").asks("chain(0, 0, 0) = 0");
        due.on("two objects know nothing of one another").asks("make() = 2, say(2, 0) = 0, conclude() = 3");
        due.on("two objects know nothing of one another").asks("count(0) = 2, count(2) = 0, rounds() = STATE, make() = 2");
    }

    private static void beforeTheFirstConclude() {
        due.on("STATE (conclude() is needed first: it was not done yet)")
            .asks("make() = 2, make() = 3, meet(2, 3) = 4, has(0, 2) = 5, say(2, 5) = 0, role(0, 1) = 1, chain(0, 0, 1) = 2, count(4) = 0")
            .asks("rounds() = STATE, conclusion(0, 0) = STATE, is(0, 0) = STATE, to(0, 0, 0) = STATE, proof(0) = STATE")
            .asks("under(2, 3) = STATE, like(2) = STATE, parent(2, 0) = STATE, broken() = STATE, things() = STATE")
            .asks("isOf(2, 5) = STATE, pair(2, 0, 2) = STATE, holds(0) = STATE")
            .asks("notion(5, 0) = 4, axiom(0, 0) = 0, count(0) = 6, count(3) = 3")
            .asks("conclude() = 8, rounds() = 4, is(2, 5) = 5, to(2, 0, 2) = 6, is(2, 2) = 2, to(2, 1, 2) = 7");
    }

    private static void concludeOfANewObject() {
        due.on("of nothing but THING and NOTHING")
            .asks("conclude() = 1, rounds() = 1, is(0, 0) = 0, is(0, 1) = NONE, is(1, 0) = NONE, is(1, 1) = NONE, proof(0) = 1")
            .row(0, "0 0 0 NONE 1 0 NONE NONE NONE").asks("conclusion(1, 0) = UNKNOWN, proof(1) = UNKNOWN, to(0, 0, 0) = NONE, to(1, 3, 1) = NONE")
            .asks("under(0, 0) = 1, under(1, 0) = 1, under(0, 1) = 0, under(1, 1) = 1, like(0) = 0, like(1) = 1")
            .asks("parent(0, 0) = NONE, parent(1, 0) = 0, parent(1, 1) = NONE, broken() = 0, things() = 1, isOf(0, 0) = 1, isOf(0, 1) = 0")
            .asks("isOf(1, 0) = NONE, isOf(1, 1) = NONE, pair(0, 0, 0) = 0, pair(1, 0, 1) = 0, holds(0) = UNKNOWN, count(4) = 1");
    }

    private static void noAxiom() {
        due.on("CONCLUSIONS with no AXIOM: CLASSES alone").asks("make() = 2, make() = 3, conclude() = 5, rounds() = 1")
            .row(0, "0 0 0 NONE 1 0 NONE NONE NONE").row(1, "0 2 0 NONE 1 1 NONE NONE NONE").row(2, "0 2 2 NONE 1 0 NONE NONE NONE")
            .row(3, "0 3 0 NONE 1 1 NONE NONE NONE").row(4, "0 3 3 NONE 1 0 NONE NONE NONE")
            .asks("under(2, 3) = 0, under(3, 2) = 0, parent(2, 0) = 0, parent(1, 0) = 2, parent(1, 1) = 3, parent(1, 2) = NONE")
            .asks("things() = 3, isOf(2, 2) = 1, isOf(2, 3) = 0, holds(0) = UNKNOWN");
        due.on("CONCLUSIONS with no AXIOM: a MEET with THING is what there is; a HAS, and what is NOTHING, is not")
            .asks("make() = 2, meet(0, 2) = 3, meet(2, 3) = 4, has(0, 0) = 5, meet(1, 2) = 6, has(0, 1) = 7, conclude() = 5, rounds() = 3")
            .row(3, "0 2 3 NONE 2 3 1 2 NONE").row(4, "0 2 4 NONE 3 3 2 3 NONE")
            .asks("is(2, 5) = NONE, is(2, 6) = NONE, is(3, 3) = NONE, to(2, 0, 0) = NONE, things() = 2")
            .asks("isOf(2, 3) = 1, isOf(2, 4) = 1, isOf(0, 3) = 0, isOf(2, 5) = 0, isOf(2, 6) = 0, isOf(2, 7) = 0, isOf(0, 0) = 1");
        due.on("no AXIOMS 0: those of ROLES alone give nothing")
            .asks("make() = 2, has(0, 2) = 3, role(0, 1), role(1, 2), chain(0, 0, 0), chain(0, 1, 2), conclude() = 3, rounds() = 1")
            .asks("holds(0) = 1, holds(1) = 1, holds(2) = 1, holds(3) = 1, pair(2, 0, 2) = 0");
    }

    private static void allAxiomsTakenBack() {
        due.on("CONCLUSIONS when all AXIOMS were taken back: as with none")
            .asks("make() = 2, has(0, 2) = 3, has(1, 0) = 4, say(2, 3), say(0, 1), role(0, 1), chain(0, 0, 2), conclude() = 10, broken() = 1")
            .asks("unsay(0), unsay(1), unsay(2), unsay(3), conclude() = 3, rounds() = 1, broken() = 0, count(2) = 4, count(3) = 0")
            .asks("holds(0) = 0, holds(1) = 0, holds(2) = 1, holds(3) = 1, things() = 2, like(2) = 2, parent(2, 0) = 0");
    }

    private static void noThings() {
        String sentence = "a house in which IS (THING, NOTHING) is there";
        due.on(sentence + ": of no CLASS").asks("say(0, 1) = 0, conclude() = 2, rounds() = 2").row(1, "0 0 1 NONE 2 4 0 NONE 0")
            .asks("broken() = 1, things() = 0, isOf(0, 0) = NONE, isOf(0, 1) = NONE, isOf(1, 0) = NONE, isOf(1, 1) = NONE, holds(0) = 1")
            .asks("under(0, 1) = 1, under(1, 0) = 1, under(0, 0) = 1, like(0) = 0, like(1) = 0, parent(0, 0) = NONE, parent(1, 0) = NONE");
        Talk t = due.on(sentence).asks("make() = 2, make() = 3, meet(2, 3) = 4, has(0, 3) = 5, say(2, 5) = 0, say(2, 3) = 1, unsay(1) = 1")
            .asks("role(0, 1) = 2, unsay(2) = 1, chain(0, 0, 3) = 3, unsay(3) = 1, say(0, 1) = 4, conclude(), broken() = 1, things() = 0")
            .asks("to(2, 0, 3) = 9, pair(2, 0, 3) = 0, holds(40) = UNKNOWN, holds(5) = UNKNOWN")
            .each("holds(#)", "1", "0", "1", "2", "3", "4").each("like(#)", "0", "0", "1", "2", "3")
            .each("parent(#, 0)", "NONE", "0", "1", "2", "3");
        for (int x = 0; x < 6; x++) {
            for (int d = 0; d < 6; d++) {
                t.asks("isOf(" + x + ", " + d + ") = NONE", "pair(" + x + ", 0, " + d + ") = 0");
                t.asks("under(" + x + ", " + d + ") = " + (x < 4 && d < 4 ? "1" : "UNKNOWN"));
            }
        }
        t.asks("unsay(4) = 1, conclude(), broken() = 0, things() = 3, pair(2, 0, 3) = 1, holds(1) = 0, holds(2) = 0, holds(3) = 1, holds(4) = 0")
            .asks("isOf(2, 5) = 1, isOf(2, 4) = 0, under(2, 3) = 0, like(3) = 3, parent(2, 0) = 0");
    }

    private static void noThingsByALongWay() {
        due.on("IS (THING, NOTHING) by NONE")
            .asks("make() = 2, has(0, 2) = 3, say(0, 3), conclude(), broken() = 0, things() = 2, say(2, 1), conclude(), broken() = 1, things() = 0")
            .asks("isOf(2, 2) = NONE, isOf(0, 0) = NONE, pair(0, 0, 2) = 0, holds(0) = 1");
        due.on("IS (THING, NOTHING) by PARTS")
            .asks("make() = 2, meet(1, 2) = 3, say(0, 3), conclude(), broken() = 1, is(2, 1) = 7, things() = 0");
    }

    private static void noPairs() {
        due.on("ROLES with no pairs: all AXIOMS 1, 2 are so")
            .asks("make(), role(0, 1), role(2, 3), chain(0, 1, 2), chain(3, 3, 3), unsay(0), unsay(2), conclude()")
            .each("holds(#)", "1", "0", "1", "2", "3").each("pair(0, #, 2)", "0", "0", "1", "2", "3").asks("to(0, 0, 2) = NONE");
    }
}
