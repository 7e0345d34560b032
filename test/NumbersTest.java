/** Numbers that are too small or too large for what they name, for each argument of each call; and the last that goes. */
public final class NumbersTest {
    private static final Due due = new Due("NumbersTest");

    // 6 notions (2, 3 CLASSES, 4 a MEET, 5 a HAS), 3 AXIOMS, 7 CONCLUSIONS.
    private static final String READY = "make() = 2, make() = 3, meet(2, 3) = 4, has(0, 4) = 5, "
        + "say(2, 3) = 0, role(0, 1) = 1, chain(0, 1, 2) = 2, conclude() = 7";
    private static final String[] NO_NOTION = odd(6);
    private static final String[] NO_ROLE = odd(4);
    private static final String[] NO_AXIOM = odd(3);
    private static final String[] NO_CONCLUSION = odd(7);

    public static void main(String[] args) {
        makers();
        sayers();
        tellers();
        conclusions();
        underWhat();
        house();
        lastOnesGo();
        lastOnesOfAFullObject();
        due.end();
    }

    /** Below 0, the first beyond the last, the least and the greatest int, and some that an int's wrap could bring back. */
    private static String[] odd(int beyond) {
        return new String[] {
            "-1", "-2", "MIN", "-2147483647", Integer.toString(beyond), Integer.toString(beyond + 1), "100", "256", "65536",
            "715827883", "858993460", "1073741824", "1431655766", "-1431655765", "-1717986918", "2147483646", "MAX"
        };
    }

    private static void makers() {
        due.on("meet(a, b): UNKNOWN").asks(READY)
            .each("meet(#, 2)", "UNKNOWN", NO_NOTION).each("meet(2, #)", "UNKNOWN", NO_NOTION)
            .each("meet(#, #)", "UNKNOWN", NO_NOTION).asks("count(0) = 6, rounds() = 3");
        due.on("has(r, a): UNKNOWN: a; OUTSIDE: r").asks(READY)
            .each("has(0, #)", "UNKNOWN", NO_NOTION).each("has(#, 4)", "OUTSIDE", NO_ROLE)
            .asks("count(0) = 6, rounds() = 3");
    }

    private static void sayers() {
        due.on("say(a, b): UNKNOWN").asks(READY)
            .each("say(#, 2)", "UNKNOWN", NO_NOTION).each("say(2, #)", "UNKNOWN", NO_NOTION)
            .each("say(#, #)", "UNKNOWN", NO_NOTION).asks("count(2) = 3, rounds() = 3");
        due.on("role(r, s): OUTSIDE").asks(READY)
            .each("role(#, 0)", "OUTSIDE", NO_ROLE).each("role(0, #)", "OUTSIDE", NO_ROLE)
            .each("role(#, #)", "OUTSIDE", NO_ROLE).asks("count(2) = 3, rounds() = 3");
        due.on("chain(r, s, t): OUTSIDE").asks(READY)
            .each("chain(#, 0, 1)", "OUTSIDE", NO_ROLE).each("chain(0, #, 1)", "OUTSIDE", NO_ROLE)
            .each("chain(0, 1, #)", "OUTSIDE", NO_ROLE).asks("count(2) = 3, rounds() = 3");
        due.on("unsay(a): UNKNOWN").asks(READY)
            .each("unsay(#)", "UNKNOWN", NO_AXIOM).asks("count(3) = 3, rounds() = 3");
    }

    private static void tellers() {
        due.on("notion(n, what): UNKNOWN; OUTSIDE").asks(READY)
            .each("notion(#, 0)", "UNKNOWN", NO_NOTION).each("notion(#, 2)", "UNKNOWN", NO_NOTION)
            .each("notion(0, #)", "OUTSIDE", odd(3)).each("notion(5, #)", "OUTSIDE", odd(3));
        due.on("axiom(a, what): UNKNOWN; OUTSIDE").asks(READY)
            .each("axiom(#, 0)", "UNKNOWN", NO_AXIOM).each("axiom(#, 4)", "UNKNOWN", NO_AXIOM)
            .each("axiom(0, #)", "OUTSIDE", odd(5)).each("axiom(2, #)", "OUTSIDE", odd(5));
        due.on("count(what): OUTSIDE").asks(READY).each("count(#)", "OUTSIDE", odd(5));
        due.on("of a new object").each("notion(#, 0)", "UNKNOWN", odd(2)).each("axiom(#, 0)", "UNKNOWN", odd(0))
            .each("unsay(#)", "UNKNOWN", odd(0)).each("meet(0, #)", "UNKNOWN", odd(2)).each("has(0, #)", "UNKNOWN", odd(2))
            .each("say(#, 1)", "UNKNOWN", odd(2)).asks("axiom(0, 0) = UNKNOWN, unsay(0) = UNKNOWN");
    }

    private static void conclusions() {
        due.on("conclusion(k, what): UNKNOWN; OUTSIDE").asks(READY)
            .each("conclusion(#, 0)", "UNKNOWN", NO_CONCLUSION).each("conclusion(#, 8)", "UNKNOWN", NO_CONCLUSION)
            .each("conclusion(0, #)", "OUTSIDE", odd(9)).each("conclusion(6, #)", "OUTSIDE", odd(9));
        due.on("is(x, d): UNKNOWN: x, d").asks(READY)
            .each("is(#, 0)", "UNKNOWN", NO_NOTION).each("is(0, #)", "UNKNOWN", NO_NOTION)
            .each("is(#, #)", "UNKNOWN", NO_NOTION);
        due.on("to(x, r, y): UNKNOWN: x, y; OUTSIDE: r").asks(READY)
            .each("to(#, 0, 0)", "UNKNOWN", NO_NOTION).each("to(0, 0, #)", "UNKNOWN", NO_NOTION)
            .each("to(0, #, 0)", "OUTSIDE", NO_ROLE).each("to(5, #, 5)", "OUTSIDE", NO_ROLE);
        due.on("proof(k): UNKNOWN").asks(READY).each("proof(#)", "UNKNOWN", NO_CONCLUSION);
    }

    private static void underWhat() {
        due.on("under(x, y): UNKNOWN: they are not CLASSES, THING, NOTHING").asks(READY)
            .each("under(#, 0)", "UNKNOWN", NO_NOTION).each("under(0, #)", "UNKNOWN", NO_NOTION)
            .each("under(1, #)", "UNKNOWN", NO_NOTION).each("under(#, #)", "UNKNOWN", NO_NOTION)
            .each("under(#, 2)", "UNKNOWN", "4", "5").each("under(2, #)", "UNKNOWN", "4", "5").each("under(#, #)", "UNKNOWN", "4", "5");
        due.on("like(x): UNKNOWN: as under()").asks(READY)
            .each("like(#)", "UNKNOWN", NO_NOTION).each("like(#)", "UNKNOWN", "4", "5");
        due.on("parent(x, k): UNKNOWN: as under(); NONE").asks(READY)
            .each("parent(#, 0)", "UNKNOWN", NO_NOTION).each("parent(#, 0)", "UNKNOWN", "4", "5")
            .each("parent(#, -1)", "UNKNOWN", "4", "5", "6", "-1").each("parent(2, #)", "NONE", odd(1))
            .each("parent(0, #)", "NONE", odd(0)).each("parent(1, #)", "NONE", odd(1));
    }

    private static void house() {
        due.on("isOf(x, d): UNKNOWN: x, d").asks(READY)
            .each("isOf(#, 0)", "UNKNOWN", NO_NOTION).each("isOf(0, #)", "UNKNOWN", NO_NOTION)
            .each("isOf(1, #)", "UNKNOWN", NO_NOTION).each("isOf(#, #)", "UNKNOWN", NO_NOTION);
        due.on("pair(x, s, y): UNKNOWN: x, y; OUTSIDE: s").asks(READY)
            .each("pair(#, 0, 0)", "UNKNOWN", NO_NOTION).each("pair(0, 0, #)", "UNKNOWN", NO_NOTION)
            .each("pair(0, #, 0)", "OUTSIDE", NO_ROLE).each("pair(1, #, 1)", "OUTSIDE", NO_ROLE);
        due.on("holds(a): UNKNOWN").asks(READY).each("holds(#)", "UNKNOWN", NO_AXIOM);
    }

    /** The first and the last number that name something. */
    private static void lastOnesGo() {
        due.on("the last one that a number names").asks(READY)
            .asks("notion(0, 0) = 0, notion(5, 0) = 4, notion(5, 2) = 4, axiom(2, 0) = 2, axiom(2, 4) = 1, axiom(0, 0) = 0")
            .asks("conclusion(6, 0) = 0, conclusion(6, 8) = NONE, conclusion(0, 8) = NONE, proof(6) = 3, proof(0) = 1")
            .asks("is(5, 5) = NONE, is(2, 4) = 6, is(0, 0) = 0, is(0, 5) = NONE, to(5, 3, 5) = NONE, to(0, 0, 0) = NONE")
            .asks("under(3, 3) = 1, under(0, 0) = 1, like(3) = 3, like(0) = 0, parent(3, 0) = 0, parent(0, 0) = NONE")
            .asks("isOf(5, 5) = NONE, isOf(3, 5) = 0, isOf(0, 0) = 1, pair(5, 3, 5) = 0, pair(0, 0, 0) = 0, holds(2) = 1, holds(0) = 1")
            .asks("count(0) = 6, count(4) = 1, meet(5, 0) = 6, has(3, 6) = 7, say(7, 7) = 3, say(0, 0) = 4")
            .asks("role(3, 3) = 5, role(0, 0) = 6, chain(3, 3, 3) = 7, chain(0, 0, 0) = 8, unsay(8) = 1, unsay(0) = 1");
    }

    private static void lastOnesOfAFullObject() {
        Talk t = due.on("the last one that a number names, of a full object");
        for (int n = 2; n < 20; n++) {
            t.asks("has(" + n % 4 + ", " + (n - 1) + ") = " + n);
        }
        for (int a = 0; a < 40; a++) {
            t.asks("say(19, 18) = " + a);
        }
        t.asks("conclude() = 1, notion(19, 0) = 4, notion(19, 1) = 3, notion(19, 2) = 18, axiom(39, 1) = 19, axiom(39, 4) = 1")
            .asks("is(19, 19) = NONE, to(19, 3, 19) = NONE, isOf(19, 19) = NONE, pair(19, 3, 19) = 0, holds(39) = 1")
            .each("notion(#, 0)", "UNKNOWN", odd(20)).each("axiom(#, 0)", "UNKNOWN", odd(40)).each("holds(#)", "UNKNOWN", odd(40))
            .each("is(#, 19)", "UNKNOWN", odd(20)).each("is(19, #)", "UNKNOWN", odd(20)).each("to(19, 0, #)", "UNKNOWN", odd(20))
            .each("to(#, 0, 19)", "UNKNOWN", odd(20)).each("isOf(0, #)", "UNKNOWN", odd(20)).each("pair(#, 3, 19)", "UNKNOWN", odd(20))
            .each("like(#)", "UNKNOWN", odd(2)).each("meet(19, #)", "UNKNOWN", odd(20)).each("unsay(#)", "UNKNOWN", odd(40))
            .asks("unsay(39) = 1");
    }
}
