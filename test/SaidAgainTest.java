/** "An AXIOM is taken back: it never holds from now on (its number stays)": and what it says may be said again. */
public final class SaidAgainTest {
    private static final Due due = new Due("SaidAgainTest");

    public static void main(String[] args) {
        takenBack();
        notionsAgain();
        rolesAgain();
        chainsAgain();
        twiceSaid();
        manyTimes();
        due.end();
    }

    private static void takenBack() {
        due.on("unsay(a): An AXIOM is taken back (its number stays): 1; UNKNOWN (also: it was already)")
            .asks("make() = 2, say(2, 0) = 0, role(1, 2) = 1, chain(1, 2, 3) = 2, unsay(1) = 1, unsay(1) = UNKNOWN, unsay(1) = UNKNOWN")
            .asks("axiom(1, 0) = 1, axiom(1, 1) = 1, axiom(1, 2) = 2, axiom(1, 3) = NONE, axiom(1, 4) = 0, axiom(0, 4) = 1, axiom(2, 4) = 1")
            .asks("unsay(2) = 1, axiom(2, 0) = 2, axiom(2, 3) = 3, axiom(2, 4) = 0, unsay(0) = 1, axiom(0, 1) = 2, axiom(0, 4) = 0")
            .asks("count(2) = 3, count(3) = 0, unsay(3) = UNKNOWN, unsay(0) = UNKNOWN, role(1, 2) = 3, count(2) = 4, count(3) = 1");
    }

    private static void notionsAgain() {
        due.on("it never holds from now on, though a IS b is said again")
            .asks("make() = 2, make() = 3, say(2, 3) = 0, say(3, 3) = 1, conclude() = 6").row(5, "0 2 3 NONE 2 4 2 NONE 0")
            .asks("unsay(0) = 1, is(2, 3) = STATE, conclude() = 5, is(2, 3) = NONE, under(2, 3) = 0, isOf(2, 3) = 0, holds(0) = 0")
            .asks("say(2, 3) = 2, axiom(0, 4) = 0, axiom(2, 4) = 1, conclude() = 6").row(5, "0 2 3 NONE 2 4 2 NONE 2")
            .asks("holds(0) = 1, holds(2) = 1, under(2, 3) = 1, unsay(0) = UNKNOWN, unsay(2) = 1, conclude() = 5, axiom(2, 4) = 0")
            .asks("holds(2) = 0, say(2, 3) = 3, conclude() = 6").row(5, "0 2 3 NONE 2 4 2 NONE 3").asks("count(2) = 4, count(3) = 2");
    }

    private static void rolesAgain() {
        due.on("it never holds from now on, though ROLE r IS s is said again")
            .asks("make() = 2, has(0, 2) = 3, has(1, 2) = 4, say(2, 3) = 0, role(0, 1) = 1, conclude() = 7, pair(2, 1, 2) = 1")
            .asks("unsay(1) = 1, conclude() = 5, pair(2, 1, 2) = 0, is(2, 4) = NONE, holds(1) = 0, role(0, 1) = 2, conclude() = 7")
            .asks("pair(2, 1, 2) = 1, is(2, 4) = 5, holds(1) = 1, holds(2) = 1, axiom(1, 4) = 0, axiom(2, 4) = 1")
            .asks("unsay(2) = 1, conclude() = 5, holds(1) = 0, holds(2) = 0");
    }

    private static void chainsAgain() {
        due.on("it never holds from now on, though a CHAIN is said again")
            .asks("make() = 2, has(0, 2) = 3, say(2, 3) = 0, chain(0, 0, 1) = 1, conclude() = 6").row(5, "1 2 2 1 4 8 4 4 1")
            .asks("unsay(1) = 1, conclude() = 5, to(2, 1, 2) = NONE, holds(1) = 0, chain(0, 0, 1) = 2, conclude() = 6")
            .row(5, "1 2 2 1 4 8 4 4 2").asks("holds(1) = 1, axiom(1, 4) = 0, unsay(1) = UNKNOWN");
    }

    /** Of two that say the same each is taken back for itself. */
    private static void twiceSaid() {
        due.on("of two AXIOMS alike one is taken back: the other one holds")
            .asks("make() = 2, make() = 3, say(2, 3) = 0, say(2, 3) = 1, unsay(0) = 1, conclude() = 6").row(5, "0 2 3 NONE 2 4 2 NONE 1")
            .asks("axiom(1, 4) = 1, count(3) = 1, say(2, 3) = 2, conclude() = 6").row(5, "0 2 3 NONE 2 4 2 NONE 1")
            .asks("unsay(1) = 1, conclude() = 6").row(5, "0 2 3 NONE 2 4 2 NONE 2");
        due.on("of two AXIOMS alike: ROLES").asks("make() = 2, has(0, 2) = 3, has(3, 2) = 4, say(2, 3), role(0, 3) = 1, role(0, 3) = 2")
            .asks("unsay(2) = 1, conclude() = 7, unsay(1) = 1, conclude() = 5, role(0, 3) = 3, conclude() = 7");
        due.on("of two AXIOMS alike: CHAINS").asks("make() = 2, has(0, 2) = 3, say(2, 3), chain(0, 0, 3) = 1, chain(0, 0, 3) = 2")
            .asks("conclude() = 6, unsay(1) = 1, conclude() = 6").row(5, "1 2 2 3 4 8 4 4 2").asks("unsay(2) = 1, conclude() = 5");
    }

    private static void manyTimes() {
        Talk t = due.on("said and taken back until 40 numbers are used").asks("make() = 2, make() = 3");
        for (int a = 0; a < 40; a++) {
            t.asks("say(2, 3) = " + a + ", count(3) = 1, unsay(" + a + ") = 1, count(3) = 0, unsay(" + a + ") = UNKNOWN");
        }
        t.asks("say(2, 3) = FULL, count(2) = 40, conclude() = 5, is(2, 3) = NONE, holds(0) = 0, holds(39) = 0");
    }
}
