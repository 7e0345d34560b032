/**
 * "STATE (conclude() is needed first: it was not done yet, or a notion or an AXIOM was made, or one taken back since)":
 * behind each call that makes or takes back, and not behind those that find what is there already, or are refused, or tell.
 */
public final class StateTest {
    private static final Due due = new Due("StateTest");

    // 8 notions, 4 AXIOMS of which the last was taken back.
    private static final String READY = "make() = 2, make() = 3, meet(2, 3) = 4, has(0, 4) = 5, has(1, 3) = 6, meet(0, 5) = 7, "
        + "say(2, 5) = 0, role(0, 1) = 1, chain(0, 1, 2) = 2, say(3, 2) = 3, unsay(3) = 1, conclude() = 23, ";
    private static final String[] NEED_CONCLUDE = {
        "rounds()", "conclusion(0, 0)", "is(0, 0)", "to(2, 0, 4)", "proof(0)", "under(2, 3)", "like(2)", "parent(2, 0)",
        "broken()", "things()", "isOf(2, 5)", "pair(2, 0, 4)", "holds(0)"
    };

    public static void main(String[] args) {
        behindWhatMakes();
        notBehindWhatFinds();
        notBehindWhatIsRefused();
        notBehindWhatTells();
        backAndForth();
        due.end();
    }

    private static void behindWhatMakes() {
        String[] makers = {
            "make() = 8", "meet(0, 2) = 8", "meet(7, 6) = 8", "has(2, 2) = 8", "has(0, 0) = 8", "has(3, 7) = 8",
            "say(2, 5) = 4", "say(0, 0) = 4", "role(0, 0) = 4", "role(0, 1) = 4", "chain(0, 1, 2) = 4", "chain(3, 3, 3) = 4",
            "unsay(0) = 1", "unsay(1) = 1", "unsay(2) = 1"
        };
        for (String maker : makers) {
            Talk t = due.on("STATE behind " + maker).asks(READY);
            stateOfAll(t, false);
            long concluded = t.answer("digest()");
            t.asks(maker);
            stateOfAll(t, true);
            due.is("digest() behind " + maker + " is another one", t.answer("digest()") == concluded ? 1 : 0, 0);
            t.asks("conclude()");
            stateOfAll(t, false);
        }
        for (String maker : new String[] {"make() = 2", "meet(0, 1) = 2", "has(0, 0) = 2", "say(0, 0) = 0", "role(0, 0) = 0", "chain(0, 0, 0) = 0"}) {
            due.on("STATE behind the first " + maker)
                .asks("conclude() = 1, rounds() = 1, " + maker + ", rounds() = STATE, is(0, 0) = STATE, conclude(), rounds() = 1");
        }
    }

    private static void notBehindWhatFinds() {
        String[] finders = {
            "meet(2, 3) = 4", "meet(3, 2) = 4", "meet(0, 5) = 7", "meet(5, 0) = 7", "meet(2, 2) = 2", "meet(0, 0) = 0", "meet(7, 7) = 7",
            "has(0, 4) = 5", "has(1, 3) = 6"
        };
        notBehind("finds what is there already", finders);
    }

    private static void notBehindWhatIsRefused() {
        String[] refused = {
            "meet(0, 8) = UNKNOWN", "meet(-1, 0) = UNKNOWN", "meet(8, 8) = UNKNOWN", "has(0, 8) = UNKNOWN", "has(4, 0) = OUTSIDE",
            "say(0, 8) = UNKNOWN", "say(MIN, 0) = UNKNOWN", "role(0, 4) = OUTSIDE", "role(-1, 0) = OUTSIDE", "chain(0, 0, 4) = OUTSIDE",
            "chain(0, -1, 0) = OUTSIDE", "unsay(3) = UNKNOWN", "unsay(4) = UNKNOWN", "unsay(-1) = UNKNOWN"
        };
        notBehind("is refused", refused);

        Talk classes = due.on("no STATE behind a make() that is refused: 10 CLASSES");
        for (int c = 2; c < 12; c++) {
            classes.asks("make() = " + c);
        }
        classes.asks("conclude() = 21, make() = FULL, rounds() = 1, is(11, 11) = 20");
        Talk notions = due.on("no STATE behind what is refused: 20 notions").asks("make() = 2");
        for (int n = 3; n < 20; n++) {
            notions.asks("has(0, " + (n - 1) + ") = " + n);
        }
        notions.asks("conclude() = 3, make() = FULL, meet(0, 1) = FULL, has(1, 1) = FULL, rounds() = 1, is(2, 2) = 2, things() = 2");
        Talk axioms = due.on("no STATE behind what is refused: 40 AXIOMS");
        for (int a = 0; a < 40; a++) {
            axioms.asks("say(0, 0) = " + a);
        }
        axioms.asks("conclude() = 1, say(0, 0) = FULL, role(0, 0) = FULL, chain(0, 0, 0) = FULL, rounds() = 1, is(0, 0) = 0, holds(39) = 1");
        Talk concludes = due.on("no STATE behind a conclude() that is refused");
        for (int done = 0; done < 20; done++) {
            concludes.asks("conclude() = 1");
        }
        concludes.asks("conclude() = STATE, rounds() = 1, is(0, 0) = 0, things() = 1");
    }

    private static void notBehindWhatTells() {
        notBehind("tells", "notion(0, 0) = 0", "axiom(0, 0) = 0", "count(0) = 8", "count(2) = 4", "count(5) = OUTSIDE", "proof(0) = 1",
            "rounds() = 10", "is(2, 5) = 5", "holds(3) = 0", "notion(8, 0) = UNKNOWN", "axiom(4, 0) = UNKNOWN");
    }

    private static void notBehind(String what, String... calls) {
        for (String call : calls) {
            Talk t = due.on("no STATE behind a call that " + what + ": " + call).asks(READY);
            long concluded = t.answer("digest()");
            t.asks(call);
            stateOfAll(t, false);
            t.is("digest()", concluded);
        }
    }

    /** It is the making, not what is concluded, that needs conclude(); and one conclude() mends it, whatever was made. */
    private static void backAndForth() {
        due.on("one conclude() is enough for many")
            .asks("make(), make(), say(2, 3), role(0, 1), unsay(0), has(0, 2), rounds() = STATE, conclude() = 5, rounds() = 1, conclude() = 5, rounds() = 1");
        due.on("STATE, though what was said is taken back at once")
            .asks("make(), make(), conclude() = 5, say(2, 3) = 0, unsay(0) = 1, rounds() = STATE, conclude() = 5, rounds() = 1, is(2, 3) = NONE");
        due.on("STATE, though an AXIOM changes nothing")
            .asks("make(), conclude() = 3, say(2, 0) = 0, is(2, 0) = STATE, conclude() = 3, is(2, 0) = 1, role(1, 1) = 1, is(2, 0) = STATE");
        due.on("STATE stays behind refused calls and such as find")
            .asks("make(), has(0, 2) = 3, conclude() = 3, make() = 4, rounds() = STATE, has(0, 2) = 3, meet(2, 2) = 2, make() = 5")
            .asks("unsay(0) = UNKNOWN, say(0, 9) = UNKNOWN, rounds() = STATE, like(2) = STATE, conclude() = 7, like(2) = 2");
    }

    private static void stateOfAll(Talk t, boolean needed) {
        for (String call : NEED_CONCLUDE) {
            if (needed) {
                t.asks(call + " = STATE");
            } else {
                due.is(call + " is no refusal", t.answer(call) >= -1 ? 1 : 0, 1);
            }
        }
    }
}
