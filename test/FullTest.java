/** What is full: 20 notions, 10 CLASSES, 40 AXIOMS, conclude() done 20 times: the last that goes, the first refused. */
public final class FullTest {
    private static final Due due = new Due("FullTest");

    public static void main(String[] args) {
        tenClasses();
        for (String last : new String[] {"make()", "meet(0, 1)", "has(3, 0)"}) {
            twentyNotions(last);
        }
        classesAndNotionsAtOnce();
        for (String last : new String[] {"say(2, 2)", "role(3, 3)", "chain(3, 3, 3)"}) {
            fortyAxioms(last);
        }
        takenBackIsNotFree();
        twentyConcludes();
        mostConclusions();
        due.end();
    }

    private static void many(Talk t, int times, String call) {
        for (int i = 0; i < times; i++) {
            t.asks(call);
        }
    }

    private static void tenClasses() {
        Talk t = due.on("make(): FULL: 10 CLASSES (besides THING and NOTHING)");
        many(t, 9, "make()");
        t.asks("count(1) = 9, make() = 11, count(1) = 10, conclude() = 21, make() = FULL, make() = FULL, count(1) = 10, count(0) = 12")
            .asks("rounds() = 1, meet(2, 11) = 12, has(0, 12) = 13, make() = FULL, count(0) = 14, count(1) = 10");
    }

    /** 19 notions, of which the last but one is a MEET; then the 20th of each sort. */
    private static void twentyNotions(String last) {
        Talk t = due.on("NOTIONS: 20 at most; FULL: the 20th is made by " + last);
        t.asks("make() = 2, meet(0, 2) = 3");
        for (int n = 4; n < 19; n++) {
            t.asks("has(" + n % 4 + ", " + (n - 1) + ") = " + n);
        }
        t.asks("count(0) = 19, " + last + " = 19, count(0) = 20, conclude()")
            .asks("make() = FULL, meet(2, 18) = FULL, has(0, 18) = FULL, meet(18, 19) = FULL, has(2, 19) = FULL, count(0) = 20")
            .asks("notion(20, 0) = UNKNOWN, meet(2, 20) = UNKNOWN, has(0, 20) = UNKNOWN, has(4, 19) = OUTSIDE");
        t.asks("rounds() = 2");
        due.on("MEET, HAS at 20 notions: the one there is; a itself, if it is b")
            .asks("make() = 2, meet(0, 2) = 3, has(0, 0) = 4, has(0, 1) = 5, has(0, 2) = 6, has(0, 3) = 7, has(0, 4) = 8, has(0, 5) = 9")
            .asks("has(1, 0) = 10, has(1, 1) = 11, has(1, 2) = 12, has(1, 3) = 13, has(1, 4) = 14, has(1, 5) = 15, has(2, 0) = 16")
            .asks("has(2, 1) = 17, has(2, 2) = 18, has(2, 3) = 19, has(2, 4) = FULL, conclude(), meet(2, 0) = 3, meet(0, 2) = 3")
            .asks("meet(19, 19) = 19, meet(0, 0) = 0, has(2, 3) = 19, has(0, 0) = 4, rounds() = 2, say(0, 0) = 0");
    }

    private static void classesAndNotionsAtOnce() {
        Talk t = due.on("make(): FULL: 10 CLASSES, 20 notions, both at once");
        many(t, 10, "make()");
        for (int n = 12; n < 20; n++) {
            t.asks("has(0, " + n + ") = UNKNOWN, has(0, " + (n - 1) + ") = " + n);
        }
        t.asks("count(0) = 20, count(1) = 10, make() = FULL, has(0, 0) = FULL, meet(0, 1) = FULL");
        Talk u = due.on("make(): FULL: 20 notions, 9 CLASSES");
        for (int n = 2; n < 11; n++) {
            u.asks("has(0, " + (n - 1) + ") = " + n);
        }
        many(u, 9, "make()");
        u.asks("count(0) = 20, count(1) = 9, make() = FULL, count(1) = 9, count(0) = 20");
    }

    private static void fortyAxioms(String last) {
        Talk t = due.on("AXIOMS: 40 at most; FULL: the 40th is said by " + last);
        t.asks("make() = 2");
        for (int a = 0; a < 39; a++) {
            String[] calls = {"say(2, 0)", "role(0, 1)", "chain(1, 2, 3)"};
            t.asks(calls[a % 3] + " = " + a);
        }
        t.asks("count(2) = 39, " + last + " = 39, count(2) = 40, axiom(39, 4) = 1, axiom(40, 0) = UNKNOWN, conclude() = 3")
            .asks("say(2, 2) = FULL, role(3, 3) = FULL, chain(3, 3, 3) = FULL, " + last + " = FULL, count(2) = 40, count(3) = 40")
            .asks("rounds() = 1, say(2, 3) = UNKNOWN, role(0, 4) = OUTSIDE, chain(0, 0, 4) = OUTSIDE, unsay(39) = 1, count(3) = 39");
    }

    private static void takenBackIsNotFree() {
        Talk t = due.on("AXIOMS: an AXIOM that was taken back counts still (its number stays)");
        many(t, 40, "say(0, 0)");
        for (int a = 0; a < 40; a++) {
            t.asks("unsay(" + a + ") = 1");
        }
        t.asks("count(2) = 40, count(3) = 0, say(0, 0) = FULL, role(0, 0) = FULL, chain(0, 0, 0) = FULL, count(2) = 40, count(3) = 0")
            .asks("conclude() = 1, rounds() = 1, holds(0) = 1, holds(39) = 1, holds(40) = UNKNOWN");
    }

    private static void twentyConcludes() {
        Talk t = due.on("conclude(): STATE: it was done 20 times");
        t.asks("make() = 2, make() = 3");
        for (int done = 0; done < 20; done++) {
            t.asks("count(4) = " + done, done % 2 == 0 ? "conclude() = 5" : "conclude() = 6", "count(4) = " + (done + 1));
            t.asks(done == 19 ? "rounds() = 2" : done % 2 == 0 ? "say(2, 3) = " + done / 2 : "unsay(" + done / 2 + ") = 1");
        }
        t.asks("conclude() = STATE, count(4) = 20, rounds() = 2, is(2, 3) = 5, things() = 3, conclude() = STATE, rounds() = 2")
            .asks("make() = 4, rounds() = STATE, conclude() = STATE, is(2, 3) = STATE, things() = STATE, count(4) = 20, rounds() = STATE");
    }

    /** 19 notions are BEGUN, each IS all 20, each is paired by all four roles with 18: 19 * (20 + 72) conclusions. */
    private static void mostConclusions() {
        String sentence = "All CONCLUSIONS are made anew: as many as there can be";
        Talk t = due.on(sentence);
        SlowRounds slow = new SlowRounds();
        for (int n = 2; n < 20; n++) {
            t.asks("has(0, " + (n - 1) + ") = " + n + ", say(0, " + n + ") = " + (n - 2));
            slow.has(0, n - 1);
            slow.say(0, n);
        }
        for (int s = 1; s < 4; s++) {
            t.asks("chain(0, 0, " + s + ") = " + (17 + s));
            slow.chain(0, 0, s);
        }
        t.is("conclude()", 1748);
        due.is("SlowRounds.conclude()", slow.conclude(), 1748);
        t.is("rounds()", slow.rounds());
        t.is("digest()", slow.digest());
        t.asks("conclusion(1747, 0) = 1, conclusion(1747, 1) = 18, conclusion(1748, 0) = UNKNOWN, proof(1748) = UNKNOWN");
        for (int k = 0; k < 1748; k += 19) {
            t.is("proof(" + k + ")", slow.proof(k));
        }
        t.asks("proof(1747)", "broken() = 1, things() = 0, conclude() = 1748, unsay(0) = 1, conclude()");
        slow.conclude();
        slow.unsay(0);
        slow.conclude();
        t.is("digest()", slow.digest());
        t.is("things()", slow.things());
        for (int a = 0; a < 21; a++) {
            t.is("holds(" + a + ")", slow.holds(a));
        }
        for (int x = 0; x < 20; x++) {
            for (int s = 0; s < 4; s++) {
                t.is("pair(" + x + ", " + s + ", " + (x * 7 + s) % 20 + ")", slow.pair(x, s, (x * 7 + s) % 20));
            }
        }
    }
}
