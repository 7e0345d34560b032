/** Promises 17 to 20: under, like, parent, broken. */
public final class UnderTest {
    private static final int NONE = -1, UNKNOWN = -101, STATE = -103;
    private static final Due due = new Due("UnderTest");

    public static void main(String[] args) {
        line();
        likeNothing();
        likeEachOther();
        diamond();
        likeThing();
        broken();
        brokenByALongWay();
        refusals();
        due.end();
    }

    private static void parents(NotionRounds x, int of, int... want) {
        for (int k = 0; k < want.length; k++) {
            due.is("parent(" + of + ", " + k + ")", x.parent(of, k), want[k]);
        }
        due.is("parent(" + of + ", " + want.length + ")", x.parent(of, want.length), NONE);
        due.is("parent(" + of + ", -1)", x.parent(of, -1), NONE);
        due.is("parent(" + of + ", MAX)", x.parent(of, Integer.MAX_VALUE), NONE);
        due.is("parent(" + of + ", MIN)", x.parent(of, Integer.MIN_VALUE), NONE);
    }

    private static void line() {
        NotionRounds x = new NotionRounds();
        x.make();
        x.make();
        x.make();
        x.say(3, 4);
        x.say(4, 2);
        x.conclude();
        due.is("under(3, 4)", x.under(3, 4), 1);
        due.is("under(3, 2)", x.under(3, 2), 1);
        due.is("under(3, 0)", x.under(3, 0), 1);
        due.is("under(3, 3)", x.under(3, 3), 1);
        due.is("under(2, 3)", x.under(2, 3), 0);
        due.is("under(0, 2)", x.under(0, 2), 0);
        due.is("under(3, 1)", x.under(3, 1), 0);
        due.is("under(1, 3): NOTHING is under all", x.under(1, 3), 1);
        due.is("under(1, 1)", x.under(1, 1), 1);
        due.is("under(1, 0)", x.under(1, 0), 1);
        due.is("under(0, 1)", x.under(0, 1), 0);
        for (int c = 0; c < 5; c++) {
            due.is("like(" + c + ")", x.like(c), c);
        }
        parents(x, 0);
        parents(x, 2, 0);
        parents(x, 4, 2);
        parents(x, 3, 4);
        parents(x, 1, 3);
    }

    private static void likeNothing() {
        NotionRounds x = new NotionRounds();
        x.make();
        x.make();
        x.make();
        x.say(3, 1);
        x.say(2, 3);
        x.conclude();
        due.is("under(2, 4): it IS NOTHING", x.under(2, 4), 1);
        due.is("under(3, 2)", x.under(3, 2), 1);
        due.is("under(2, 1)", x.under(2, 1), 1);
        due.is("under(4, 3)", x.under(4, 3), 0);
        due.is("like(2)", x.like(2), 1);
        due.is("like(3)", x.like(3), 1);
        due.is("like(1)", x.like(1), 1);
        due.is("like(4)", x.like(4), 4);
        parents(x, 2, 4);
        parents(x, 3, 4);
        parents(x, 1, 4);
        parents(x, 4, 0);
        due.is("broken()", x.broken(), 0);
    }

    private static void likeEachOther() {
        NotionRounds x = new NotionRounds();
        for (int c = 0; c < 5; c++) {
            x.make();
        }
        x.say(3, 5);
        x.say(5, 6);
        x.say(6, 3);
        x.say(2, 6);
        x.say(5, 4);
        x.conclude();
        due.is("like(3)", x.like(3), 3);
        due.is("like(5)", x.like(5), 3);
        due.is("like(6)", x.like(6), 3);
        due.is("like(2)", x.like(2), 2);
        parents(x, 2, 3);
        parents(x, 6, 4);
        parents(x, 3, 4);
        parents(x, 5, 4);
        parents(x, 4, 0);
        parents(x, 1, 2);
    }

    private static void diamond() {
        NotionRounds x = new NotionRounds();
        for (int c = 0; c < 5; c++) {
            x.make();
        }
        int m = x.meet(3, 5);
        x.say(2, m);
        x.say(3, 4);
        x.say(5, 4);
        x.say(2, 4);
        x.conclude();
        parents(x, 2, 3, 5);
        parents(x, 3, 4);
        parents(x, 5, 4);
        parents(x, 6, 0);
        parents(x, 1, 2, 6);
    }

    private static void likeThing() {
        NotionRounds x = new NotionRounds();
        x.make();
        x.make();
        x.say(0, 3);
        x.conclude();
        due.is("like(3)", x.like(3), 0);
        due.is("like(2)", x.like(2), 2);
        parents(x, 2, 0);
        parents(x, 3);
        parents(x, 0);
        parents(x, 1, 2);
        NotionRounds y = new NotionRounds();
        y.conclude();
        parents(y, 1, 0);
        parents(y, 0);
    }

    private static void broken() {
        NotionRounds x = new NotionRounds();
        x.make();
        x.say(0, 1);
        x.conclude();
        due.is("broken()", x.broken(), 1);
        for (int c = 0; c < 3; c++) {
            due.is("like(" + c + ")", x.like(c), 0);
            due.is("under(0, " + c + ")", x.under(0, c), 1);
            parents(x, c);
        }
        x.unsay(0);
        due.is("broken() before conclude()", x.broken(), STATE);
        x.conclude();
        due.is("broken() after unsay()", x.broken(), 0);
    }

    /** THING has something of a class that IS NOTHING. */
    private static void brokenByALongWay() {
        NotionRounds x = new NotionRounds();
        x.make();
        x.has(2, 2);
        x.say(0, 3);
        x.conclude();
        due.is("broken()", x.broken(), 0);
        x.say(2, 1);
        x.conclude();
        due.is("broken()", x.broken(), 1);
        due.is("things()", x.things(), 0);
    }

    private static void refusals() {
        NotionRounds x = new NotionRounds();
        x.make();
        x.has(0, 2);
        due.is("under(9, 9) before conclude()", x.under(9, 9), STATE);
        due.is("like(9) before conclude()", x.like(9), STATE);
        due.is("parent(9, 0) before conclude()", x.parent(9, 0), STATE);
        due.is("broken() before conclude()", x.broken(), STATE);
        x.conclude();
        due.is("under(3, 0): 3 is a HAS", x.under(3, 0), UNKNOWN);
        due.is("under(0, 3)", x.under(0, 3), UNKNOWN);
        due.is("under(4, 0)", x.under(4, 0), UNKNOWN);
        due.is("under(0, -1)", x.under(0, -1), UNKNOWN);
        due.is("like(3)", x.like(3), UNKNOWN);
        due.is("like(4)", x.like(4), UNKNOWN);
        due.is("like(MIN)", x.like(Integer.MIN_VALUE), UNKNOWN);
        due.is("parent(3, 0)", x.parent(3, 0), UNKNOWN);
        due.is("parent(MAX, -1)", x.parent(Integer.MAX_VALUE, -1), UNKNOWN);
        x.meet(0, 2);
        due.is("like(0) after meet()", x.like(0), STATE);
        x.conclude();
        due.is("like(4): 4 is a MEET", x.like(4), UNKNOWN);
    }
}
