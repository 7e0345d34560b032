/** Promises 5 to 8 and 10: say, role, chain, unsay, axiom. */
public final class AxiomsTest {
    private static final int UNKNOWN = -101, OUTSIDE = -102, FULL = -104;
    private static final Due due = new Due("AxiomsTest");

    public static void main(String[] args) {
        sayings();
        wrongSayings();
        unsay();
        unsaidNeverHolds();
        unsaidRoleAndChain();
        fullOfAxioms();
        due.end();
    }

    private static void axiomIs(NotionRounds x, int a, int... want) {
        for (int what = 0; what < want.length; what++) {
            due.is("axiom(" + a + ", " + what + ")", x.axiom(a, what), want[what]);
        }
    }

    private static void sayings() {
        NotionRounds x = new NotionRounds();
        x.make();
        due.is("say(2, 1)", x.say(2, 1), 0);
        due.is("role(0, 3)", x.role(0, 3), 1);
        due.is("chain(3, 0, 2)", x.chain(3, 0, 2), 2);
        due.is("say(2, 1) again", x.say(2, 1), 3);
        due.is("role(2, 2)", x.role(2, 2), 4);
        due.is("say(0, 0)", x.say(0, 0), 5);
        axiomIs(x, 0, 0, 2, 1, -1, 1);
        axiomIs(x, 1, 1, 0, 3, -1, 1);
        axiomIs(x, 2, 2, 3, 0, 2, 1);
        axiomIs(x, 3, 0, 2, 1, -1, 1);
        axiomIs(x, 4, 1, 2, 2, -1, 1);
        axiomIs(x, 5, 0, 0, 0, -1, 1);
        due.is("axiom(0, 5)", x.axiom(0, 5), OUTSIDE);
        due.is("axiom(0, -1)", x.axiom(0, -1), OUTSIDE);
        due.is("axiom(6, 9): UNKNOWN is told first", x.axiom(6, 9), UNKNOWN);
        due.is("axiom(-1, 0)", x.axiom(-1, 0), UNKNOWN);
        due.is("axiom(MAX, 0)", x.axiom(Integer.MAX_VALUE, 0), UNKNOWN);
    }

    private static void wrongSayings() {
        NotionRounds x = new NotionRounds();
        due.is("say(0, 2)", x.say(0, 2), UNKNOWN);
        due.is("say(2, 0)", x.say(2, 0), UNKNOWN);
        due.is("say(-1, 0)", x.say(-1, 0), UNKNOWN);
        due.is("say(0, MIN)", x.say(0, Integer.MIN_VALUE), UNKNOWN);
        due.is("role(4, 0)", x.role(4, 0), OUTSIDE);
        due.is("role(0, 4)", x.role(0, 4), OUTSIDE);
        due.is("role(-1, 0)", x.role(-1, 0), OUTSIDE);
        due.is("chain(4, 0, 0)", x.chain(4, 0, 0), OUTSIDE);
        due.is("chain(0, 4, 0)", x.chain(0, 4, 0), OUTSIDE);
        due.is("chain(0, 0, 4)", x.chain(0, 0, 4), OUTSIDE);
        due.is("chain(0, 0, -1)", x.chain(0, 0, -1), OUTSIDE);
        due.is("count(2)", x.count(2), 0);
        due.is("role(3, 3)", x.role(3, 3), 0);
        due.is("chain(3, 3, 3)", x.chain(3, 3, 3), 1);
    }

    private static void unsay() {
        NotionRounds x = new NotionRounds();
        x.say(0, 0);
        x.role(1, 2);
        due.is("unsay(2)", x.unsay(2), UNKNOWN);
        due.is("unsay(-1)", x.unsay(-1), UNKNOWN);
        due.is("unsay(MAX)", x.unsay(Integer.MAX_VALUE), UNKNOWN);
        due.is("unsay(1)", x.unsay(1), 1);
        due.is("unsay(1) again", x.unsay(1), UNKNOWN);
        axiomIs(x, 1, 1, 1, 2, -1, 0);
        axiomIs(x, 0, 0, 0, 0, -1, 1);
        due.is("role(1, 2) said again", x.role(1, 2), 2);
        axiomIs(x, 1, 1, 1, 2, -1, 0);
        axiomIs(x, 2, 1, 1, 2, -1, 1);
        due.is("count(2)", x.count(2), 3);
        due.is("count(3)", x.count(3), 2);
    }

    private static void unsaidNeverHolds() {
        NotionRounds x = new NotionRounds();
        x.make();
        x.make();
        x.say(2, 3);
        due.is("conclude()", x.conclude(), 6);
        due.is("is(2, 3)", x.is(2, 3), 5);
        x.unsay(0);
        due.is("conclude() after unsay(0)", x.conclude(), 5);
        due.is("is(2, 3) then", x.is(2, 3), -1);
        due.is("under(2, 3) then", x.under(2, 3), 0);
    }

    private static void unsaidRoleAndChain() {
        NotionRounds x = new NotionRounds();
        x.make();
        x.has(0, 2);
        x.has(1, 2);
        x.say(2, 3);
        x.role(0, 1);
        x.chain(0, 0, 2);
        // IS (0, 0), IS (2, 0), IS (2, 2); IS (2, 3); TO (2, 0, 2); IS (2, 4), TO (2, 2, 2); TO (2, 1, 2).
        due.is("conclude()", x.conclude(), 8);
        due.is("rounds()", x.rounds(), 5);
        due.is("to(2, 2, 2)", x.to(2, 2, 2), 6);
        x.unsay(1);
        due.is("conclude() without the role", x.conclude(), 6);
        due.is("is(2, 4)", x.is(2, 4), -1);
        x.unsay(2);
        due.is("conclude() without the chain", x.conclude(), 5);
        due.is("to(2, 2, 2)", x.to(2, 2, 2), -1);
    }

    private static void fullOfAxioms() {
        NotionRounds x = new NotionRounds();
        for (int a = 0; a < 40; a++) {
            int got = a % 3 == 0 ? x.say(0, 0) : a % 3 == 1 ? x.role(0, 0) : x.chain(0, 1, 2);
            due.is("axiom " + a, got, a);
        }
        due.is("say(0, 0) of a 41st", x.say(0, 0), FULL);
        due.is("role(0, 0) of a 41st", x.role(0, 0), FULL);
        due.is("chain(0, 0, 0) of a 41st", x.chain(0, 0, 0), FULL);
        due.is("say(0, 2): UNKNOWN is told first", x.say(0, 2), UNKNOWN);
        due.is("role(0, 4): OUTSIDE is told first", x.role(0, 4), OUTSIDE);
        due.is("chain(4, 0, 0): OUTSIDE is told first", x.chain(4, 0, 0), OUTSIDE);
        due.is("unsay(39)", x.unsay(39), 1);
        due.is("say(0, 0): a number taken back is not free", x.say(0, 0), FULL);
        due.is("count(2)", x.count(2), 40);
        due.is("count(3)", x.count(3), 39);
    }
}
