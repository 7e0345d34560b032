/** Promises 11 to 16: conclude, rounds, conclusion, is, to, proof; each rule and each order of the why. */
public final class ConcludeTest {
    private static final int NONE = -1, UNKNOWN = -101, OUTSIDE = -102, STATE = -103;
    private static final Due due = new Due("ConcludeTest");

    public static void main(String[] args) {
        onlySeeds();
        begunByTo();
        partsAndMeets();
        leastAxiom();
        firstPremiseBeforeAxiom();
        firstRuleOfSeveral();
        back();
        leastPremisesOfBack();
        none();
        chainWithRoles();
        leastAxiomOfChain();
        rolesInLine();
        orderInARound();
        proof();
        twentyConcludes();
        states();
        due.end();
    }

    private static void onlySeeds() {
        NotionRounds x = new NotionRounds();
        due.is("conclude() of a new object", x.conclude(), 1);
        due.is("rounds()", x.rounds(), 1);
        due.row("THING", x, 0, 0, 0, 0, NONE, 1, 0, NONE, NONE, NONE);
        x.make();
        due.is("conclude() of one class", x.conclude(), 3);
        due.is("rounds()", x.rounds(), 1);
        due.row("ALL", x, 1, 0, 2, 0, NONE, 1, 1, NONE, NONE, NONE);
        due.row("SELF", x, 2, 0, 2, 2, NONE, 1, 0, NONE, NONE, NONE);
        due.is("is(1, 1)", x.is(1, 1), NONE);
    }

    /** NOTHING, and a meet, are begun as the y of some TO only. */
    private static void begunByTo() {
        NotionRounds x = new NotionRounds();
        x.make();
        x.make();
        x.meet(2, 3);
        x.has(1, 4);
        x.say(2, 5);
        x.say(3, 5);
        due.is("conclude()", x.conclude(), 15);
        due.is("rounds()", x.rounds(), 7);
        due.row("OUT", x, 7, 1, 2, 4, 1, 3, 5, 5, NONE, NONE);
        due.row("OUT", x, 8, 1, 3, 4, 1, 3, 5, 6, NONE, NONE);
        due.row("ALL by the least TO", x, 9, 0, 4, 0, NONE, 4, 1, 7, NONE, NONE);
        due.row("SELF by the least TO", x, 10, 0, 4, 4, NONE, 4, 0, 7, NONE, NONE);
        due.row("PARTS", x, 11, 0, 4, 2, NONE, 5, 2, 10, NONE, NONE);
        due.row("PARTS", x, 12, 0, 4, 3, NONE, 5, 2, 10, NONE, NONE);
        due.row("the first premise", x, 13, 0, 4, 5, NONE, 6, 4, 11, NONE, 0);
        due.row("OUT to itself", x, 14, 1, 4, 4, 1, 7, 5, 13, NONE, NONE);
    }

    private static void partsAndMeets() {
        NotionRounds x = new NotionRounds();
        x.make();
        x.make();
        x.make();
        x.meet(3, 2);
        x.meet(4, 3);
        x.say(2, 6);
        due.is("conclude()", x.conclude(), 11);
        due.is("rounds()", x.rounds(), 4);
        due.row("AXIOM", x, 7, 0, 2, 6, NONE, 2, 4, 2, NONE, 0);
        due.row("PARTS, the first part", x, 8, 0, 2, 3, NONE, 3, 2, 7, NONE, NONE);
        due.row("PARTS, the second part", x, 9, 0, 2, 4, NONE, 3, 2, 7, NONE, NONE);
        due.row("MEETS", x, 10, 0, 2, 5, NONE, 4, 3, 2, 8, NONE);
    }

    private static void leastAxiom() {
        NotionRounds x = new NotionRounds();
        x.make();
        x.make();
        x.say(2, 3);
        x.say(2, 3);
        x.say(2, 3);
        x.unsay(0);
        due.is("conclude()", x.conclude(), 6);
        due.row("the least axiom that holds", x, 5, 0, 2, 3, NONE, 2, 4, 2, NONE, 1);
    }

    private static void firstPremiseBeforeAxiom() {
        NotionRounds x = new NotionRounds();
        x.make();
        x.make();
        x.say(2, 3);
        x.say(0, 3);
        due.is("conclude()", x.conclude(), 7);
        due.row("THING is 3", x, 5, 0, 0, 3, NONE, 2, 4, 0, NONE, 1);
        due.row("the first premise goes before the axiom", x, 6, 0, 2, 3, NONE, 2, 4, 1, NONE, 1);
    }

    /** IS (2, 3) comes in round 3 by PARTS of the meet, and by an axiom of a lesser premise. */
    private static void firstRuleOfSeveral() {
        NotionRounds x = new NotionRounds();
        x.make();
        x.make();
        x.make();
        x.meet(3, 4);
        x.say(2, 4);
        x.say(4, 3);
        x.say(2, 5);
        due.is("conclude()", x.conclude(), 12);
        due.is("rounds()", x.rounds(), 3);
        due.row("IS (2, 4)", x, 7, 0, 2, 4, NONE, 2, 4, 2, NONE, 0);
        due.row("IS (2, MEET)", x, 8, 0, 2, 5, NONE, 2, 4, 2, NONE, 2);
        due.row("IS (4, 3)", x, 9, 0, 4, 3, NONE, 2, 4, 6, NONE, 1);
        due.row("PARTS goes before AXIOM", x, 10, 0, 2, 3, NONE, 3, 2, 8, NONE, NONE);
        due.row("MEETS", x, 11, 0, 4, 5, NONE, 3, 3, 9, 6, NONE);
    }

    private static void back() {
        NotionRounds x = new NotionRounds();
        x.make();
        x.make();
        x.make();
        x.has(0, 3);
        x.has(1, 4);
        x.has(2, 0);
        x.say(2, 5);
        x.say(3, 4);
        x.role(0, 1);
        // A role is another one by two axioms, whichever was said first.
        x.role(3, 2);
        x.role(1, 3);
        due.is("conclude()", x.conclude(), 14);
        due.row("IS (2, HAS 0 3)", x, 7, 0, 2, 5, NONE, 2, 4, 2, NONE, 0);
        due.row("IS (3, 4)", x, 8, 0, 3, 4, NONE, 2, 4, 4, NONE, 1);
        due.row("OUT", x, 9, 1, 2, 3, 0, 3, 5, 7, NONE, NONE);
        due.row("BACK by one axiom", x, 10, 0, 2, 6, NONE, 4, 6, 9, 8, NONE);
        due.row("BACK by three axioms", x, 11, 0, 2, 7, NONE, 4, 6, 9, 3, NONE);
        due.row("OUT", x, 12, 1, 2, 4, 1, 5, 5, 10, NONE, NONE);
        due.row("OUT", x, 13, 1, 2, 0, 2, 5, 5, 11, NONE, NONE);
    }

    private static void leastPremisesOfBack() {
        NotionRounds x = new NotionRounds();
        x.make();
        x.make();
        x.make();
        x.has(0, 4);
        x.has(0, 3);
        x.has(1, 0);
        x.say(2, 5);
        x.say(2, 6);
        x.role(0, 1);
        due.is("conclude()", x.conclude(), 13);
        due.row("TO (2, 0, 3)", x, 9, 1, 2, 3, 0, 3, 5, 8, NONE, NONE);
        due.row("TO (2, 0, 4)", x, 10, 1, 2, 4, 0, 3, 5, 7, NONE, NONE);
        due.row("BACK by the least TO", x, 11, 0, 2, 7, NONE, 4, 6, 9, 3, NONE);
        due.row("TO (2, 1, 0)", x, 12, 1, 2, 0, 1, 5, 5, 11, NONE, NONE);
    }

    private static void none() {
        NotionRounds x = new NotionRounds();
        x.make();
        x.make();
        x.has(3, 3);
        x.say(2, 4);
        x.say(3, 1);
        due.is("conclude()", x.conclude(), 9);
        due.row("IS (2, HAS 3 3)", x, 5, 0, 2, 4, NONE, 2, 4, 2, NONE, 0);
        due.row("IS (3, NOTHING)", x, 6, 0, 3, 1, NONE, 2, 4, 4, NONE, 1);
        due.row("OUT", x, 7, 1, 2, 3, 3, 3, 5, 5, NONE, NONE);
        due.row("NONE", x, 8, 0, 2, 1, NONE, 4, 7, 7, 6, NONE);

        NotionRounds y = new NotionRounds();
        y.make();
        y.has(0, 1);
        y.say(2, 3);
        due.is("conclude() with NOTHING begun", y.conclude(), 8);
        due.row("TO (2, 0, NOTHING)", y, 4, 1, 2, 1, 0, 3, 5, 3, NONE, NONE);
        due.row("ALL of NOTHING", y, 5, 0, 1, 0, NONE, 4, 1, 4, NONE, NONE);
        due.row("SELF of NOTHING", y, 6, 0, 1, 1, NONE, 4, 0, 4, NONE, NONE);
        due.row("NONE by NOTHING itself", y, 7, 0, 2, 1, NONE, 5, 7, 4, 6, NONE);
    }

    private static void chainWithRoles() {
        NotionRounds x = new NotionRounds();
        x.make();
        x.make();
        x.make();
        x.has(0, 3);
        x.has(1, 4);
        x.say(2, 5);
        x.say(3, 6);
        x.chain(2, 3, 0);
        x.role(0, 2);
        x.role(1, 3);
        due.is("conclude()", x.conclude(), 12);
        due.is("rounds()", x.rounds(), 4);
        due.row("TO (2, 0, 3)", x, 9, 1, 2, 3, 0, 3, 5, 7, NONE, NONE);
        due.row("TO (3, 1, 4)", x, 10, 1, 3, 4, 1, 3, 5, 8, NONE, NONE);
        due.row("CHAIN", x, 11, 1, 2, 4, 0, 4, 8, 9, 10, 2);
    }

    /** Of two ways by chain the first premise decides, then the second one, then the axiom. */
    private static void leastAxiomOfChain() {
        NotionRounds x = new NotionRounds();
        x.make();
        x.make();
        x.has(0, 3);
        x.has(1, 3);
        x.say(2, 4);
        x.say(2, 5);
        x.say(3, 5);
        x.say(3, 4);
        x.chain(1, 0, 2);
        x.chain(0, 1, 2);
        x.chain(0, 1, 2);
        x.chain(0, 0, 2);
        due.is("conclude()", x.conclude(), 15);
        due.row("TO (2, 0, 3)", x, 9, 1, 2, 3, 0, 3, 5, 5, NONE, NONE);
        due.row("TO (3, 0, 3)", x, 11, 1, 3, 3, 0, 3, 5, 7, NONE, NONE);
        due.row("TO (3, 1, 3)", x, 12, 1, 3, 3, 1, 3, 5, 8, NONE, NONE);
        due.row("the least second premise", x, 13, 1, 2, 3, 2, 4, 8, 9, 11, 7);
        due.row("the least premises of 3", x, 14, 1, 3, 3, 2, 4, 8, 11, 11, 7);

        x.unsay(7);
        due.is("conclude() without axiom 7", x.conclude(), 15);
        due.row("the least axiom", x, 13, 1, 2, 3, 2, 4, 8, 9, 12, 5);
        due.row("the least axiom of 3", x, 14, 1, 3, 3, 2, 4, 8, 11, 12, 5);
    }

    private static void rolesInLine() {
        NotionRounds x = new NotionRounds();
        x.make();
        x.has(0, 2);
        x.has(3, 2);
        x.say(2, 3);
        x.role(2, 3);
        x.role(1, 2);
        due.is("conclude()", x.conclude(), 5);
        x.role(0, 1);
        due.is("conclude() when 0 is 1 is 2 is 3", x.conclude(), 7);
        due.row("BACK over three axioms", x, 5, 0, 2, 4, NONE, 4, 6, 4, 2, NONE);
        x.unsay(2);
        due.is("conclude() with the line cut", x.conclude(), 5);
    }

    /** By x; IS ahead of TO; IS by d; TO by r, then y. */
    private static void orderInARound() {
        NotionRounds x = new NotionRounds();
        x.make();
        x.make();
        x.has(1, 2);
        x.has(0, 3);
        x.has(0, 2);
        for (int h = 4; h <= 6; h++) {
            x.say(2, h);
            x.say(0, h);
        }
        due.is("conclude()", x.conclude(), 23);
        due.is("rounds()", x.rounds(), 3);
        int[][] second = {{0, 4}, {0, 5}, {0, 6}, {2, 4}, {2, 5}, {2, 6}, {3, 4}, {3, 5}, {3, 6}};
        for (int i = 0; i < second.length; i++) {
            due.is("is" + i, x.is(second[i][0], second[i][1]), 5 + i);
        }
        int[][] third = {{0, 0, 2}, {0, 0, 3}, {0, 1, 2}, {2, 0, 2}, {2, 0, 3}, {2, 1, 2}, {3, 0, 2}, {3, 0, 3}, {3, 1, 2}};
        for (int i = 0; i < third.length; i++) {
            due.is("to" + i, x.to(third[i][0], third[i][1], third[i][2]), 14 + i);
            due.is("its round", x.conclusion(14 + i, 4), 3);
        }
        isAheadOfTo();
    }

    private static void isAheadOfTo() {
        NotionRounds x = new NotionRounds();
        x.make();
        x.make();
        x.has(0, 2);
        x.say(2, 4);
        x.say(2, 3);
        x.say(3, 1);
        due.is("conclude()", x.conclude(), 10);
        due.is("is(2, 3), round 2", x.is(2, 3), 5);
        due.is("is(2, 4), round 2", x.is(2, 4), 6);
        due.is("is(3, 1), round 2", x.is(3, 1), 7);
        due.is("is(2, 1), round 3", x.is(2, 1), 8);
        due.is("to(2, 0, 2), round 3", x.to(2, 0, 2), 9);
    }

    private static void proof() {
        NotionRounds x = new NotionRounds();
        x.make();
        x.make();
        x.make();
        x.meet(3, 2);
        x.meet(4, 3);
        x.say(2, 6);
        x.conclude();
        due.is("proof of a seed", x.proof(0), 1);
        due.is("proof(7)", x.proof(7), 2);
        due.is("proof(8)", x.proof(8), 3);
        // 10 by 2 and 8, 8 by 7, 7 by 2: 2 leads to it twice and counts once.
        due.is("proof(10)", x.proof(10), 4);
        due.is("proof(10) again", x.proof(10), 4);
        due.is("proof(9) after it", x.proof(9), 3);
        due.is("proof(11)", x.proof(11), UNKNOWN);
        due.is("proof(-1)", x.proof(-1), UNKNOWN);
        due.is("proof(MAX)", x.proof(Integer.MAX_VALUE), UNKNOWN);
    }

    private static void twentyConcludes() {
        NotionRounds x = new NotionRounds();
        for (int i = 1; i <= 20; i++) {
            due.is("conclude() " + i, x.conclude(), 1);
            due.is("count(4)", x.count(4), i);
        }
        due.is("conclude() for the 21st time", x.conclude(), STATE);
        due.is("count(4)", x.count(4), 20);
        due.is("what was concluded stays", x.is(0, 0), 0);
        x.make();
        due.is("rounds() after make()", x.rounds(), STATE);
        due.is("conclude() then", x.conclude(), STATE);
        due.is("rounds() still", x.rounds(), STATE);
    }

    private static void states() {
        NotionRounds x = new NotionRounds();
        x.make();
        due.is("conclusion(-1, -1) before conclude()", x.conclusion(-1, -1), STATE);
        due.is("is(-1, 0) before conclude()", x.is(-1, 0), STATE);
        due.is("to(-1, -1, 0) before conclude()", x.to(-1, -1, 0), STATE);
        due.is("proof(-1) before conclude()", x.proof(-1), STATE);
        due.is("rounds() before conclude()", x.rounds(), STATE);
        x.conclude();
        due.is("conclusion(3, 9): UNKNOWN is told first", x.conclusion(3, 9), UNKNOWN);
        due.is("conclusion(-1, 0)", x.conclusion(-1, 0), UNKNOWN);
        due.is("conclusion(2, 9)", x.conclusion(2, 9), OUTSIDE);
        due.is("conclusion(2, -1)", x.conclusion(2, -1), OUTSIDE);
        due.is("is(3, 0)", x.is(3, 0), UNKNOWN);
        due.is("is(0, 3)", x.is(0, 3), UNKNOWN);
        due.is("is(0, -1)", x.is(0, -1), UNKNOWN);
        due.is("to(3, 0, 0)", x.to(3, 0, 0), UNKNOWN);
        due.is("to(0, 0, 3)", x.to(0, 0, 3), UNKNOWN);
        due.is("to(0, 4, 3): UNKNOWN is told first", x.to(0, 4, 3), UNKNOWN);
        due.is("to(0, 4, 0)", x.to(0, 4, 0), OUTSIDE);
        due.is("to(0, -1, 0)", x.to(0, -1, 0), OUTSIDE);
        due.is("to(0, 3, 0)", x.to(0, 3, 0), NONE);
    }
}
