/** Each sentence of "Terms", in its order: what it gives, and what it does not give. */
public final class TermsTest {
    private static final Due due = new Due("TermsTest");

    public static void main(String[] args) {
        notions();
        axioms();
        roles();
        meaning();
        begun();
        rulesOfOneNotion();
        rulesOfTo();
        chains();
        rounds();
        orderInARound();
        theFirstRule();
        theFirstPremise();
        theSecondPremiseAndTheAxiom();
        premises();
        axiomsOfWhys();
        under();
        like();
        parents();
        house();
        due.end();
    }

    // ---- 1

    private static void notions() {
        due.on("NOTIONS have numbers, as they are made, no two alike: 0 THING, 1 NOTHING")
            .asks("count(0) = 2, notion(0, 0) = 0, notion(1, 0) = 1")
            .asks("make() = 2, has(0, 2) = 3, meet(2, 3) = 4, make() = 5, has(1, 2) = 6, has(0, 5) = 7, meet(3, 5) = 8")
            .asks("has(0, 2) = 3, meet(2, 3) = 4, has(1, 2) = 6, has(0, 5) = 7, meet(3, 5) = 8, count(0) = 9");
        due.on("a MEET and a HAS of the same numbers are not alike")
            .asks("meet(0, 1) = 2, has(0, 1) = 3, meet(0, 1) = 2, has(0, 1) = 3, notion(2, 0) = 3, notion(3, 0) = 4");
        due.on("MEET of two notions a, b (a not above b: the numbers are put in order)")
            .asks("make() = 2, make() = 3, meet(3, 2) = 4, notion(4, 1) = 2, notion(4, 2) = 3, meet(2, 3) = 4")
            .asks("meet(1, 0) = 5, notion(5, 1) = 0, notion(5, 2) = 1, meet(0, 1) = 5")
            .asks("meet(5, 2) = 6, notion(6, 1) = 2, notion(6, 2) = 5, meet(4, 2) = 7, meet(4, 3) = 8");
        due.on("MEET: not of a notion with itself")
            .asks("make() = 2, has(0, 2) = 3, meet(2, 3) = 4, count(0) = 5")
            .asks("meet(0, 0) = 0, meet(1, 1) = 1, meet(2, 2) = 2, meet(3, 3) = 3, meet(4, 4) = 4, count(0) = 5");
        due.on("HAS of a ROLE r and a notion a")
            .asks("make() = 2, meet(0, 2) = 3, has(0, 0) = 4, has(3, 1) = 5, has(1, 2) = 6, has(2, 3) = 7, has(2, 7) = 8")
            .asks("notion(4, 0) = 4, notion(4, 1) = 0, notion(4, 2) = 0, notion(5, 1) = 3, notion(5, 2) = 1")
            .asks("notion(8, 1) = 2, notion(8, 2) = 7");
    }

    private static void axioms() {
        due.on("AXIOMS (numbered) are: 0 a IS b (notions); 1 ROLE r IS s; 2 CHAIN: r, then s, IS t")
            .asks("make(), say(2, 0) = 0, role(3, 1) = 1, chain(1, 2, 3) = 2, say(2, 0) = 3, role(3, 1) = 4, chain(1, 2, 3) = 5")
            .asks("axiom(0, 0) = 0, axiom(0, 1) = 2, axiom(0, 2) = 0, axiom(0, 3) = NONE, axiom(0, 4) = 1")
            .asks("axiom(1, 0) = 1, axiom(1, 1) = 3, axiom(1, 2) = 1, axiom(1, 3) = NONE, axiom(1, 4) = 1")
            .asks("axiom(2, 0) = 2, axiom(2, 1) = 1, axiom(2, 2) = 2, axiom(2, 3) = 3, axiom(2, 4) = 1")
            .asks("axiom(3, 0) = 0, axiom(4, 0) = 1, axiom(5, 0) = 2, count(2) = 6");
        due.on("a IS b: of any two notions, itself too")
            .asks("meet(0, 1) = 2, has(0, 2) = 3, say(2, 3) = 0, say(3, 3) = 1, say(1, 0) = 2, say(0, 1) = 3");
        due.on("a IS b is not b IS a")
            .asks("make(), make(), say(2, 3), conclude() = 6, is(2, 3) = 5, is(3, 2) = NONE");
    }

    /** IS (2, HAS 3 2) tells whether 0 IS 3. */
    private static void roles() {
        String has = "make() = 2, has(0, 2) = 3, has(3, 2) = 4, say(2, 3) = 0, ";
        String sentence = "A ROLE IS another one by AXIOMS 1, by one or more of them, and itself";
        due.on(sentence).asks(has + "conclude() = 5, is(2, 4) = NONE");
        due.on(sentence).asks(has + "role(0, 3), conclude() = 7, is(2, 4) = 5");
        due.on(sentence).asks(has + "role(3, 0), conclude() = 5, is(2, 4) = NONE");
        due.on(sentence).asks(has + "role(0, 1), role(1, 3), conclude() = 7, is(2, 4) = 5");
        due.on(sentence).asks(has + "role(2, 3), role(1, 2), role(0, 1), conclude() = 7, is(2, 4) = 5")
            .asks("unsay(2) = 1, conclude() = 5, is(2, 4) = NONE");
        due.on(sentence).asks(has + "role(0, 2), role(2, 1), role(1, 3), conclude() = 7, is(2, 4) = 5");
        due.on(sentence).asks(has + "role(0, 1), role(1, 0), role(2, 3), role(3, 2), conclude() = 5, is(2, 4) = NONE");
        due.on("AXIOMS 1 alone: no CHAIN makes a ROLE another one")
            .asks(has + "chain(0, 0, 3), chain(0, 3, 3), conclude()")
            .asks("pair(2, 0, 2) = 1, pair(2, 3, 2) = 1, holds(1) = 1")
            .asks("unsay(1), unsay(2), conclude() = 5, pair(2, 3, 2) = 0");
        due.on("A ROLE IS itself, with no AXIOM 1")
            .asks("make() = 2, make() = 3, make() = 4, has(1, 3) = 5, has(1, 4) = 6, say(2, 5), say(3, 4)")
            .asks("conclude() = 12, is(2, 6) = 10").row(10, "0 2 6 NONE 4 6 9 8 NONE");
    }

    private static void meaning() {
        due.on("THING is all of them, NOTHING none")
            .asks("make(), make(), say(2, 3), conclude(), things() = 3, say(0, 1) = 1, unsay(1), say(1, 2) = 2, conclude()")
            .each("isOf(#, 0)", "1", "0", "2", "3").each("isOf(#, 1)", "0", "0", "2", "3")
            .asks("holds(1) = 0, holds(2) = 1");
        due.on("MEET what is both")
            .asks("make() = 2, make() = 3, make() = 4, meet(2, 3) = 5, say(4, 2), say(4, 3), conclude()")
            .asks("isOf(4, 5) = 1, isOf(2, 5) = 0, isOf(3, 5) = 0, isOf(0, 5) = 0");
        due.on("HAS what is paired by r with some a")
            .asks("make() = 2, make() = 3, make() = 4, has(0, 3) = 5, has(0, 4) = 6, has(1, 3) = 7, has(0, 0) = 8, say(2, 5)")
            .asks("conclude(), isOf(2, 5) = 1, isOf(2, 6) = 0, isOf(2, 7) = 0, isOf(2, 8) = 1, isOf(3, 5) = 0, isOf(3, 8) = 0");
        due.on("HAS: with some a by MEANING, though no CONCLUSION says so")
            .asks("make() = 2, make() = 3, make() = 4, has(0, 3) = 5, say(2, 5), say(3, 4), meet(0, 4) = 6, has(1, 6) = 7")
            .asks("role(0, 1), unsay(2), conclude(), isOf(3, 6) = 1, isOf(2, 7) = 0, role(0, 1), conclude(), isOf(2, 7) = 1");
        due.on("an AXIOM is so, if all of the first are the second: of notions")
            .asks("make(), make(), make(), say(2, 3), say(2, 4), say(3, 4), say(4, 3), unsay(1), unsay(2), unsay(3), conclude()")
            .asks("holds(0) = 1, holds(1) = 0, holds(2) = 0, holds(3) = 0");
        due.on("an AXIOM is so, if all of the first are the second: pairs by r")
            .asks("make() = 2, has(0, 2) = 3, has(1, 2) = 4, say(2, 3), say(2, 4), say(0, 3)")
            .asks("role(0, 1), role(1, 0), role(2, 0), role(0, 2), unsay(3), unsay(4), unsay(5), unsay(6), conclude()")
            .asks("pair(0, 0, 2) = 1, pair(0, 1, 2) = 0, holds(3) = 0, holds(4) = 1, holds(5) = 1, holds(6) = 0");
        due.on("an AXIOM is so, if all of the first are the second: pairs by r and then s")
            .asks("make() = 2, make() = 3, make() = 4, has(0, 3) = 5, has(1, 4) = 6, has(2, 4) = 7, say(2, 5), say(3, 6), say(2, 7)")
            .asks("chain(0, 1, 2), chain(0, 1, 3), chain(1, 0, 3), chain(2, 2, 3)")
            .asks("unsay(3), unsay(4), unsay(5), unsay(6), conclude()")
            .asks("holds(3) = 1, holds(4) = 0, holds(5) = 1, holds(6) = 1");
    }

    // ---- 2

    private static void begun() {
        due.on("SEEDS are THING and all CLASSES")
            .asks("has(0, 0) = 2, meet(0, 1) = 3, make() = 4, make() = 5, conclude() = 5")
            .asks("is(0, 0) = 0, is(4, 0) = 1, is(4, 4) = 2, is(5, 0) = 3, is(5, 5) = 4")
            .each("is(#, 0)", "NONE", "1", "2", "3").asks("is(1, 1) = NONE, is(2, 2) = NONE, is(3, 3) = NONE");
        due.on("a notion is BEGUN, if there is a TO (x, r, y) with it as y: a MEET, a HAS, NOTHING")
            .asks("make() = 2, make() = 3, meet(2, 3) = 4, has(0, 4) = 5, has(1, 5) = 6, say(3, 6), conclude() = 16")
            .asks("to(3, 1, 5) = 6, is(5, 0) = 7, is(5, 5) = 8, to(5, 0, 4) = 9, is(4, 0) = 10, is(4, 4) = 11")
            .asks("is(4, 2) = 12, is(4, 3) = 13, is(6, 6) = NONE");
        due.on("a notion is BEGUN, if there is a TO (x, r, y) with it as y: NOTHING")
            .asks("make() = 2, has(0, 1) = 3, say(2, 3), is(1, 1) = STATE, conclude() = 8, to(2, 0, 1) = 4, is(1, 0) = 5, is(1, 1) = 6");
        due.on("a notion that some x IS is not BEGUN by that")
            .asks("make() = 2, make() = 3, meet(2, 3) = 4, has(0, 2) = 5, say(2, 4), conclude()")
            .asks("is(2, 4) = 5, is(4, 4) = NONE, is(4, 0) = NONE, is(5, 5) = NONE");
    }

    private static void rulesOfOneNotion() {
        Talk t = due.on("0 SELF: x is BEGUN: IS (x, x); 1 ALL: x is BEGUN: IS (x, THING)");
        t.asks("make() = 2, meet(0, 2) = 3, has(0, 3) = 4, say(2, 4) = 0, conclude() = 11, rounds() = 7");
        t.row(0, "0 0 0 NONE 1 0 NONE NONE NONE").row(1, "0 2 0 NONE 1 1 NONE NONE NONE").row(2, "0 2 2 NONE 1 0 NONE NONE NONE");
        t.row(6, "0 3 0 NONE 4 1 5 NONE NONE").row(7, "0 3 3 NONE 4 0 5 NONE NONE");
        t.row(3, "0 2 3 NONE 2 3 1 2 NONE").row(4, "0 2 4 NONE 2 4 2 NONE 0").row(5, "1 2 3 0 3 5 4 NONE NONE");
        t.row(8, "0 3 2 NONE 5 2 7 NONE NONE").row(9, "0 3 4 NONE 6 4 8 NONE 0").row(10, "1 3 3 0 7 5 9 NONE NONE");

        due.on("2 PARTS: IS (x, MEET a b): IS (x, a), IS (x, b)")
            .asks("make() = 2, make() = 3, make() = 4, meet(3, 4) = 5, say(2, 5), conclude() = 10, rounds() = 3")
            .row(7, "0 2 5 NONE 2 4 2 NONE 0").row(8, "0 2 3 NONE 3 2 7 NONE NONE").row(9, "0 2 4 NONE 3 2 7 NONE NONE");
        due.on("3 MEETS: IS (x, a), IS (x, b), MEET a b is a notion: IS (x, it)")
            .asks("make() = 2, make() = 3, make() = 4, say(4, 2), say(4, 3), conclude() = 9")
            .asks("meet(2, 3) = 5, conclude() = 10, is(2, 5) = NONE, is(3, 5) = NONE").row(9, "0 4 5 NONE 3 3 7 8 NONE")
            .asks("unsay(1), conclude() = 8, is(4, 5) = NONE, say(4, 3), unsay(0), conclude() = 8, is(4, 5) = NONE");
        due.on("4 AXIOM: IS (x, a), a IS b: IS (x, b)")
            .asks("make() = 2, make() = 3, make() = 4, say(2, 3), say(3, 4), conclude() = 10, rounds() = 3")
            .row(7, "0 2 3 NONE 2 4 2 NONE 0").row(8, "0 3 4 NONE 2 4 4 NONE 1").row(9, "0 2 4 NONE 3 4 7 NONE 1");
        due.on("4 AXIOM: of THING, of a MEET, of a HAS, of NOTHING as a")
            .asks("make() = 2, make() = 3, make() = 4, meet(0, 2) = 5, say(5, 3), has(1, 3) = 6, say(0, 6), say(6, 4), say(1, 2)")
            .asks("conclude() = 20, rounds() = 3").row(7, "0 0 6 NONE 2 4 0 NONE 1").row(8, "0 2 5 NONE 2 3 1 2 NONE")
            .asks("is(2, 6) = 9, is(3, 6) = 10, is(4, 6) = 11, is(0, 4) = 12")
            .row(12, "0 0 4 NONE 3 4 7 NONE 2").row(13, "1 0 3 1 3 5 7 NONE NONE").row(14, "0 2 3 NONE 3 4 8 NONE 0")
            .asks("is(2, 4) = 15");
    }

    private static void rulesOfTo() {
        due.on("5 OUT: IS (x, HAS r y): TO (x, r, y)")
            .asks("make() = 2, make() = 3, has(3, 3) = 4, say(2, 4), conclude() = 7, rounds() = 3")
            .row(5, "0 2 4 NONE 2 4 2 NONE 0").row(6, "1 2 3 3 3 5 5 NONE NONE")
            .asks("to(2, 3, 3) = 6, to(3, 3, 2) = NONE, to(2, 0, 3) = NONE, to(2, 3, 0) = NONE");

        String back = "make() = 2, make() = 3, make() = 4, has(0, 3) = 5, say(2, 5) = 0, say(3, 4) = 1, ";
        String sentence = "6 BACK: TO (x, r, y), IS (y, e), r IS s, HAS s e is a notion: IS (x, it)";
        due.on(sentence).asks(back + "role(0, 1) = 2, conclude() = 10, has(1, 4) = 6, conclude() = 12, rounds() = 5")
            .row(9, "1 2 3 0 3 5 7 NONE NONE").row(10, "0 2 6 NONE 4 6 9 8 NONE").row(11, "1 2 4 1 5 5 10 NONE NONE");
        due.on(sentence).asks(back + "has(1, 4) = 6, role(1, 0) = 2, conclude() = 10, is(2, 6) = NONE");
        due.on(sentence).asks(back + "has(1, 4) = 6, role(0, 1) = 2, unsay(1), conclude() = 9, is(2, 6) = NONE");
        due.on(sentence).asks(back + "has(0, 0) = 6, conclude() = 12").row(10, "0 2 6 NONE 4 6 9 3 NONE");

        due.on("7 NONE: TO (x, r, y), IS (y, NOTHING): IS (x, NOTHING)")
            .asks("make() = 2, make() = 3, has(2, 3) = 4, say(2, 4), conclude() = 7, is(2, 1) = NONE, say(3, 1), conclude() = 9")
            .row(6, "0 3 1 NONE 2 4 4 NONE 1").row(8, "0 2 1 NONE 4 7 7 6 NONE");
        due.on("7 NONE: with NOTHING as y")
            .asks("make() = 2, has(0, 1) = 3, say(2, 3), conclude() = 8").row(7, "0 2 1 NONE 5 7 4 6 NONE");
    }

    private static void chains() {
        String ready = "make() = 2, make() = 3, make() = 4, has(0, 3) = 5, has(1, 4) = 6, say(2, 5), say(3, 6), ";
        String sentence = "8 CHAIN: TO (x, r, y), TO (y, s, z), r IS p, s IS q, an AXIOM CHAIN p, q, t: TO (x, t, z)";
        due.on(sentence).asks(ready + "conclude() = 11, rounds() = 3, chain(0, 1, 2) = 2, conclude() = 12, rounds() = 4")
            .row(9, "1 2 3 0 3 5 7 NONE NONE").row(10, "1 3 4 1 3 5 8 NONE NONE").row(11, "1 2 4 2 4 8 9 10 2");
        due.on(sentence).asks(ready + "chain(1, 0, 2), conclude() = 11, chain(0, 0, 2), chain(1, 1, 2), conclude() = 11");
        due.on(sentence).asks(ready + "chain(2, 1, 3) = 2, conclude() = 11, role(0, 2) = 3, conclude() = 12")
            .row(11, "1 2 4 3 4 8 9 10 2");
        due.on(sentence).asks(ready + "chain(0, 2, 3) = 2, conclude() = 11, role(1, 2) = 3, conclude() = 12")
            .row(11, "1 2 4 3 4 8 9 10 2");
        due.on(sentence).asks(ready + "chain(2, 3, 0) = 2, role(0, 1) = 3, role(1, 2) = 4, conclude() = 11")
            .asks("role(1, 3) = 5, conclude() = 14").row(11, "1 2 4 0 4 8 9 10 2");
        due.on("8 CHAIN: TO by t itself, not by what t IS")
            .asks(ready + "chain(0, 1, 2), role(2, 3), conclude() = 12, to(2, 2, 4) = 11, to(2, 3, 4) = NONE");
        due.on("8 CHAIN: a ROLE in line with itself")
            .asks("make() = 2, make() = 3, make() = 4, has(0, 3) = 5, has(0, 4) = 6, has(0, 2) = 7")
            .asks("say(2, 5), say(3, 6), say(4, 7), chain(0, 0, 0) = 3, conclude() = 25, rounds() = 6")
            .row(10, "1 2 3 0 3 5 7 NONE NONE").row(11, "1 3 4 0 3 5 8 NONE NONE").row(12, "1 4 2 0 3 5 9 NONE NONE")
            .row(13, "1 2 4 0 4 8 10 11 3").row(14, "1 3 2 0 4 8 11 12 3").row(15, "1 4 3 0 4 8 12 10 3");
    }

    private static void rounds() {
        due.on("ROUNDS 1, 2, ..: each concludes all that some RULE gives of CONCLUSIONS of ROUNDS before")
            .asks("make() = 2, make() = 3, make() = 4, make() = 5, say(4, 5), say(3, 4), say(2, 3), conclude() = 15, rounds() = 4")
            .asks("is(2, 3) = 9, is(3, 4) = 10, is(4, 5) = 11, is(2, 4) = 12, is(3, 5) = 13, is(2, 5) = 14")
            .each("conclusion(#, 4)", "2", "9", "10", "11").each("conclusion(#, 4)", "3", "12", "13")
            .asks("conclusion(14, 4) = 4");
        due.on("and that is not there yet")
            .asks("make() = 2, make() = 3, say(2, 3), say(2, 3), say(2, 2), say(3, 3), say(2, 0), conclude() = 6, rounds() = 2")
            .row(1, "0 2 0 NONE 1 1 NONE NONE NONE").row(2, "0 2 2 NONE 1 0 NONE NONE NONE");
        due.on("a ROUND that concludes nothing is the last one (and is not counted)")
            .asks("conclude() = 1, rounds() = 1, make(), conclude() = 3, rounds() = 1, say(0, 2), conclude() = 4, rounds() = 2")
            .asks("conclusion(3, 4) = 2");
        due.on("CONCLUSIONS are numbered so, over all ROUNDS, from 0")
            .asks("make() = 2, make() = 3, say(2, 3), conclude() = 6, is(0, 0) = 0, is(2, 0) = 1, is(2, 2) = 2, is(3, 0) = 3, is(3, 3) = 4")
            .asks("is(2, 3) = 5, conclusion(5, 1) = 2, conclusion(6, 1) = UNKNOWN, conclusion(-1, 1) = UNKNOWN");
    }

    private static void orderInARound() {
        due.on("in order of x, .. of IS by d")
            .asks("make() = 2, make() = 3, make() = 4, say(3, 4), say(2, 4), say(2, 3), say(0, 4), conclude()")
            .asks("is(0, 4) = 7, is(2, 3) = 8, is(2, 4) = 9, is(3, 4) = 10");
        due.on("of each IS ahead of TO")
            .asks("make() = 2, make() = 3, make() = 4, has(0, 2) = 5, say(2, 5), say(2, 3), say(3, 4), conclude() = 12")
            .asks("is(2, 3) = 7, is(2, 5) = 8, is(3, 4) = 9, is(2, 4) = 10, to(2, 0, 2) = 11");
        due.on("of each: a TO of a lesser x is ahead of an IS of a greater one")
            .asks("make() = 2, make() = 3, make() = 4, has(0, 4) = 5, say(2, 5), say(3, 2), conclude() = 12")
            .asks("to(2, 0, 4) = 9, is(3, 5) = 10, to(3, 0, 4) = 11, conclusion(9, 4) = 3, conclusion(10, 4) = 3");
        due.on("of TO by r, then y")
            .asks("make() = 2, make() = 3, has(3, 0) = 4, has(0, 3) = 5, has(3, 2) = 6, has(0, 2) = 7, has(1, 3) = 8")
            .asks("say(2, 4), say(2, 5), say(2, 6), say(2, 7), say(2, 8), conclude() = 15")
            .asks("to(2, 0, 2) = 10, to(2, 0, 3) = 11, to(2, 1, 3) = 12, to(2, 3, 0) = 13, to(2, 3, 2) = 14");
    }

    /** Two rules give the same in the same round. */
    private static void theFirstRule() {
        String sentence = "THE WHY of a CONCLUSION: the first RULE (by numbers) that gave it then";
        due.on(sentence + ": 0 of 0, 1").asks("conclude()").row(0, "0 0 0 NONE 1 0 NONE NONE NONE");
        due.on(sentence + ": 2 of 2, 3")
            .asks("make() = 2, make() = 3, make() = 4, meet(3, 4) = 5, meet(2, 5) = 6, say(2, 3), say(2, 4), say(2, 6)")
            .asks("conclude() = 11").row(10, "0 2 5 NONE 3 2 9 NONE NONE");
        due.on(sentence + ": 2 of 2, 4")
            .asks("make() = 2, make() = 3, make() = 4, meet(3, 4) = 5, say(2, 4), say(4, 3), say(2, 5), conclude() = 12")
            .row(10, "0 2 3 NONE 3 2 8 NONE NONE");
        due.on(sentence + ": 3 of 3, 4")
            .asks("make() = 2, meet(0, 2) = 3, say(2, 3), conclude() = 4").row(3, "0 2 3 NONE 2 3 1 2 NONE");
        // IS (2, HAS 1 4) is given in round 4 by the role, and by two axioms in line.
        due.on(sentence + ": 4 of 4, 6")
            .asks("make() = 2, make() = 3, make() = 4, make() = 5, make() = 6, has(0, 3) = 7, has(1, 3) = 8")
            .asks("say(2, 7), say(2, 5), say(5, 6), say(6, 8), role(0, 1), conclude(), conclusion(17, 4) = 3, is(2, 6) = 15")
            .asks("to(2, 0, 3) = 16, is(5, 8) = 17").row(19, "0 2 8 NONE 4 4 15 NONE 3");
        due.on(sentence + ": 4 of 4, 7")
            .asks("make() = 2, make() = 3, make() = 4, make() = 5, has(0, 3) = 6")
            .asks("say(2, 6), say(3, 1), say(2, 4), say(4, 5), say(5, 1), conclude(), is(2, 5) = 14, is(4, 1) = 16")
            .row(17, "0 2 1 NONE 4 4 14 NONE 4");
        due.on(sentence + ": 5 of 5, 8")
            .asks("make() = 2, make() = 3, make() = 4, make() = 5, has(0, 3) = 6, has(1, 4) = 7, has(2, 4) = 8")
            .asks("say(2, 6), say(3, 7), say(2, 5), say(5, 8), chain(0, 1, 2), conclude(), is(2, 8) = 13")
            .row(17, "1 2 4 2 4 5 13 NONE NONE");
        due.on("gave it then: a lesser RULE that gives it later on is too late")
            .asks("make() = 2, make() = 3, make() = 4, meet(3, 4) = 5, say(2, 3), say(2, 5), conclude() = 10")
            .row(7, "0 2 3 NONE 2 4 2 NONE 0").row(8, "0 2 5 NONE 2 4 2 NONE 1").row(9, "0 2 4 NONE 3 2 8 NONE NONE");
    }

    private static void theFirstPremise() {
        String sentence = "and of that the first one by its first premise";
        due.on(sentence + ", of 2")
            .asks("make() = 2, make() = 3, make() = 4, meet(3, 4) = 5, meet(0, 3) = 6, say(2, 6), say(2, 5), conclude() = 12")
            .asks("is(2, 5) = 7, is(2, 6) = 8, is(3, 6) = 9").row(10, "0 2 3 NONE 3 2 7 NONE NONE");
        due.on(sentence + ", of 4: ahead of a lesser AXIOM")
            .asks("make() = 2, make() = 3, say(2, 3), say(0, 3), conclude() = 7").row(6, "0 2 3 NONE 2 4 1 NONE 1");
        due.on(sentence + ", of 6: the y is not the least one, the TO is")
            .asks("make() = 2, make() = 3, has(0, 3) = 4, has(1, 2) = 5, has(2, 0) = 6, say(2, 4), say(2, 5), role(0, 2), role(1, 2)")
            .asks("conclude() = 11, to(2, 0, 3) = 7, to(2, 1, 2) = 8").row(9, "0 2 6 NONE 4 6 7 3 NONE");
        due.on(sentence + ", of 7")
            .asks("make() = 2, make() = 3, make() = 4, has(0, 4) = 5, has(1, 3) = 6, say(2, 5), say(2, 6), say(3, 1), say(4, 1)")
            .asks("conclude() = 14, to(2, 0, 4) = 11, to(2, 1, 3) = 12, is(4, 1) = 10").row(13, "0 2 1 NONE 4 7 11 10 NONE");
        due.on(sentence + ", of 8: ahead of a lesser second one and a lesser AXIOM")
            .asks("make() = 2, make() = 3, make() = 4, has(0, 4) = 5, has(1, 3) = 6, has(2, 0) = 7")
            .asks("say(2, 5), say(2, 6), say(3, 7), say(4, 7), chain(1, 2, 3) = 4, chain(0, 2, 3) = 5, conclude() = 16")
            .asks("to(2, 0, 4) = 11, to(2, 1, 3) = 12, to(3, 2, 0) = 13, to(4, 2, 0) = 14").row(15, "1 2 0 3 4 8 11 14 5");
    }

    private static void theSecondPremiseAndTheAxiom() {
        due.on("then by its second one, ahead of a lesser AXIOM")
            .asks("make() = 2, make() = 3, has(0, 3) = 4, has(1, 0) = 5, has(2, 0) = 6, say(2, 4), say(3, 5), say(3, 6)")
            .asks("chain(0, 2, 3) = 3, chain(0, 1, 3) = 4, conclude() = 12")
            .asks("to(2, 0, 3) = 8, to(3, 1, 0) = 9, to(3, 2, 0) = 10").row(11, "1 2 0 3 4 8 8 9 4");
        due.on("then by its AXIOM, of 4")
            .asks("make() = 2, make() = 3, role(0, 1), say(3, 2), say(2, 3), say(2, 3), conclude() = 7")
            .row(5, "0 2 3 NONE 2 4 2 NONE 2").asks("unsay(2), conclude() = 7").row(5, "0 2 3 NONE 2 4 2 NONE 3");
        due.on("then by its AXIOM, of 8: the least that the ROLES go under")
            .asks("make() = 2, make() = 3, has(0, 3) = 4, has(1, 0) = 5, say(2, 4), say(3, 5)")
            .asks("role(1, 2) = 2, chain(3, 1, 3) = 3, chain(0, 2, 3) = 4, chain(0, 1, 3) = 5, conclude() = 10")
            .row(9, "1 2 0 3 4 8 7 8 4").asks("unsay(2), conclude() = 10").row(9, "1 2 0 3 4 8 7 8 5");
    }

    private static void premises() {
        due.on("PREMISES: of 0, 1 the least TO with x as y")
            .asks("make() = 2, make() = 3, meet(2, 3) = 4, has(1, 4) = 5, has(0, 4) = 6, say(3, 6), say(2, 5), conclude()")
            .asks("to(2, 1, 4) = 7, to(3, 0, 4) = 8").row(9, "0 4 0 NONE 4 1 7 NONE NONE").row(10, "0 4 4 NONE 4 0 7 NONE NONE");
        due.on("PREMISES: of 0, 1 .. or NONE (a SEED), though there is a TO with it as y")
            .asks("make() = 2, make() = 3, has(0, 3) = 4, say(2, 4), has(0, 0) = 5, say(3, 5), conclude()")
            .asks("to(2, 0, 3) = 7, to(3, 0, 0) = 8").row(0, "0 0 0 NONE 1 0 NONE NONE NONE")
            .row(3, "0 3 0 NONE 1 1 NONE NONE NONE").row(4, "0 3 3 NONE 1 0 NONE NONE NONE");
        due.on("PREMISES: of 3 those of a, of b, also if that of b is the lesser one")
            .asks("make() = 2, make() = 3, make() = 4, meet(2, 3) = 5, say(4, 3), say(3, 2), conclude() = 12")
            .row(9, "0 3 5 NONE 3 3 7 4 NONE").row(10, "0 4 2 NONE 3 4 8 NONE 1").row(11, "0 4 5 NONE 4 3 10 8 NONE");
        due.on("PREMISES: of 6, 7, 8 as told, also if the second one is the lesser one")
            .asks("make() = 2, make() = 3, has(0, 3) = 4, say(2, 4), conclude() = 7, has(0, 0) = 5, conclude() = 9")
            .row(7, "0 2 5 NONE 4 6 6 3 NONE").asks("say(3, 1), conclude() = 11").row(8, "0 2 1 NONE 4 7 7 6 NONE");
        due.on("PREMISES: others have one")
            .asks("make() = 2, make() = 3, meet(0, 3) = 4, has(0, 4) = 5, say(2, 5), conclude()")
            .asks("conclusion(5, 5) = 4, conclusion(5, 7) = NONE, conclusion(7, 5) = 5, conclusion(7, 7) = NONE")
            .asks("conclusion(10, 5) = 2, conclusion(10, 7) = NONE");
    }

    private static void axiomsOfWhys() {
        due.on("AXIOM: of 4, of 8; else NONE")
            .asks("make() = 2, make() = 3, has(0, 3) = 4, has(1, 0) = 5, meet(0, 3) = 6, role(0, 1), chain(0, 1, 2), say(2, 4), say(3, 5)")
            .asks("conclude() = 13").row(5, "0 2 4 NONE 2 4 2 NONE 2").row(6, "0 3 5 NONE 2 4 4 NONE 3")
            .row(7, "0 3 6 NONE 2 3 3 4 NONE").row(8, "1 2 3 0 3 5 5 NONE NONE").row(9, "1 3 0 1 3 5 6 NONE NONE")
            .row(10, "0 2 5 NONE 4 6 8 3 NONE").row(11, "1 2 0 2 4 8 8 9 1").row(12, "1 2 0 1 5 5 10 NONE NONE");
    }

    // ---- 3

    private static void under() {
        due.on("x IS UNDER y, if IS (x, y) is there")
            .asks("make(), make(), make(), say(2, 3), say(3, 4), conclude(), under(2, 3) = 1, under(2, 4) = 1, under(3, 4) = 1")
            .each("under(#, 0)", "1", "0", "1", "2", "3", "4")
            .asks("under(3, 2) = 0, under(4, 2) = 0, under(0, 2) = 0, under(2, 1) = 0, under(0, 1) = 0, under(2, 2) = 1");
        due.on("x IS UNDER y, if IS (x, NOTHING) is there")
            .asks("make(), make(), say(2, 1), conclude(), is(2, 3) = NONE, under(2, 3) = 1, under(2, 1) = 1, under(3, 2) = 0, under(3, 1) = 0");
        due.on("x IS UNDER y, if x is NOTHING")
            .asks("make(), conclude(), is(1, 2) = NONE, is(1, 1) = NONE").each("under(1, #)", "1", "0", "1", "2")
            .asks("under(0, 2) = 0, under(2, 1) = 0");
        due.on("x IS UNDER y, if IS (THING, NOTHING) is there")
            .asks("make(), make(), say(0, 1), conclude()").each("under(0, #)", "1", "0", "1", "2", "3")
            .each("under(1, #)", "1", "0", "1", "2", "3").each("under(2, #)", "1", "0", "1", "2", "3");
        due.on("UNDER is of CLASSES, THING, NOTHING")
            .asks("make() = 2, meet(0, 2) = 3, has(0, 2) = 4, conclude()")
            .each("under(#, 0)", "UNKNOWN", "3", "4").each("under(0, #)", "UNKNOWN", "3", "4").asks("under(3, 3) = UNKNOWN");
    }

    private static void like() {
        due.on("LIKE are two, each UNDER the other one; like() tells the least")
            .asks("make(), make(), make(), make(), say(3, 4), say(4, 3), say(2, 3), conclude()")
            .asks("like(4) = 3, like(3) = 3, like(2) = 2, like(5) = 5, like(0) = 0, like(1) = 1");
        due.on("LIKE THING").asks("make(), make(), say(0, 3), conclude(), like(3) = 0, like(2) = 2, like(0) = 0");
        due.on("LIKE NOTHING").asks("make(), make(), say(3, 1), conclude(), like(3) = 1, like(1) = 1, like(2) = 2");
        due.on("LIKE NOTHING by a TO")
            .asks("make(), make(), has(0, 2) = 4, say(3, 4), say(2, 1), conclude(), like(3) = 1, like(2) = 1");
    }

    private static void parents() {
        due.on("A PARENT of x is y, not LIKE x, x UNDER y")
            .asks("make(), make(), make(), say(2, 3), conclude(), parent(2, 0) = 3, parent(2, 1) = NONE, parent(3, 0) = 0, parent(3, 1) = NONE")
            .asks("parent(0, 0) = NONE, parent(4, 0) = 0, parent(1, 0) = 2, parent(1, 1) = 4, parent(1, 2) = NONE");
        due.on("A PARENT: y the least of those LIKE it")
            .asks("make(), make(), make(), say(3, 4), say(4, 3), say(2, 4), conclude(), parent(2, 0) = 3, parent(2, 1) = NONE")
            .asks("parent(3, 0) = 0, parent(4, 0) = 0, parent(4, 1) = NONE");
        due.on("A PARENT: y the least of those LIKE it: THING, not the class LIKE it")
            .asks("make(), make(), say(0, 3), conclude(), parent(2, 0) = 0, parent(2, 1) = NONE, parent(3, 0) = NONE");
        due.on("A PARENT: there is no z with x UNDER z UNDER y that is LIKE neither")
            .asks("make(), make(), make(), say(2, 4), say(2, 3), say(3, 4), conclude(), parent(2, 0) = 3, parent(2, 1) = NONE");
        due.on("A PARENT: a z that is LIKE x, or LIKE y, is none between")
            .asks("make(), make(), make(), make(), say(2, 3), say(3, 2), say(4, 5), say(5, 4), say(3, 5), conclude()")
            .each("parent(#, 0)", "4", "2", "3").each("parent(#, 1)", "NONE", "2", "3", "4", "5");
        due.on("the k-th PARENT of x (from 0, by numbers)")
            .asks("make(), make(), make(), make(), say(2, 5), say(2, 3), say(2, 4), conclude()")
            .asks("parent(2, 0) = 3, parent(2, 1) = 4, parent(2, 2) = 5, parent(2, 3) = NONE");
        due.on("a PARENT of what is LIKE NOTHING, of NOTHING itself")
            .asks("make(), make(), say(2, 1), conclude(), parent(2, 0) = 3, parent(1, 0) = 3, parent(2, 1) = NONE, parent(1, 1) = NONE");
        due.on("a PARENT of NOTHING where there is no CLASS: THING").asks("conclude(), parent(1, 0) = 0, parent(1, 1) = NONE");
    }

    private static void house() {
        due.on("THE HOUSE: its things are the notions x that are BEGUN")
            .asks("make() = 2, meet(0, 2) = 3, has(0, 3) = 4, has(1, 4) = 5, conclude(), things() = 2, isOf(3, 0) = NONE, isOf(4, 0) = NONE")
            .asks("isOf(1, 0) = NONE, isOf(5, 5) = NONE, isOf(0, 0) = 1, isOf(2, 0) = 1")
            .asks("say(2, 5), conclude(), things() = 4, isOf(3, 3) = 1, isOf(4, 4) = 1, isOf(5, 5) = NONE, isOf(1, 1) = NONE");
        due.on("THE HOUSE: .. IS (x, NOTHING) not being there")
            .asks("make() = 2, make() = 3, say(2, 1), conclude(), things() = 2, isOf(2, 2) = NONE, isOf(2, 0) = NONE, isOf(3, 0) = 1");
        due.on("THE HOUSE: NOTHING, though BEGUN, is no thing of it")
            .asks("make() = 2, has(0, 1) = 3, say(2, 3), conclude(), is(1, 1) = 6, isOf(1, 1) = NONE, isOf(1, 0) = NONE, things() = 1");
        due.on("THE HOUSE: a CLASS c is all x with IS (x, c)")
            .asks("make() = 2, make() = 3, say(2, 3), conclude(), isOf(2, 3) = 1, isOf(3, 3) = 1, isOf(3, 2) = 0, isOf(0, 3) = 0");
        due.on("THE HOUSE: a ROLE s is all pairs x, y of TO (x, r, y), r IS s")
            .asks("make() = 2, make() = 3, has(0, 3) = 4, say(2, 4), role(0, 1), role(1, 2), conclude()")
            .asks("pair(2, 0, 3) = 1, pair(2, 1, 3) = 1, pair(2, 2, 3) = 1, pair(2, 3, 3) = 0, pair(3, 0, 2) = 0, pair(2, 0, 0) = 0")
            .asks("to(2, 1, 3) = NONE");
        due.on("THE HOUSE: .. y a thing of it")
            .asks("make() = 2, make() = 3, has(0, 3) = 4, say(2, 4), say(3, 1), conclude(), to(2, 0, 3) = 7, pair(2, 0, 3) = 0");
        due.on("MEANING: in any house with things .., a ROLE any pairs: x, too, is a thing of it (NOTES.md)")
            .asks("make() = 2, make() = 3, has(0, 3) = 4, say(2, 4), say(2, 1), conclude(), to(2, 0, 3) = 7, pair(2, 0, 3) = 0");
    }
}
