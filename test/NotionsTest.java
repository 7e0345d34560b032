/** Promises 1 to 4 and 9: a new object, make, meet, has, notion. */
public final class NotionsTest {
    private static final int UNKNOWN = -101, OUTSIDE = -102, FULL = -104;
    private static final Due due = new Due("NotionsTest");

    public static void main(String[] args) {
        constants();
        newObject();
        make();
        makeAtTwentyNotions();
        meet();
        has();
        fullOfNotions();
        notion();
        due.end();
    }

    private static void constants() {
        due.is("NONE", NotionRounds.NONE, -1);
        due.is("UNKNOWN", NotionRounds.UNKNOWN, -101);
        due.is("OUTSIDE", NotionRounds.OUTSIDE, -102);
        due.is("STATE", NotionRounds.STATE, -103);
        due.is("FULL", NotionRounds.FULL, -104);
    }

    private static void newObject() {
        NotionRounds x = new NotionRounds();
        due.is("count(0)", x.count(0), 2);
        due.is("count(1)", x.count(1), 0);
        due.is("count(2)", x.count(2), 0);
        due.is("notion(0, 0)", x.notion(0, 0), 0);
        due.is("notion(1, 0)", x.notion(1, 0), 1);
        due.is("notion(2, 0)", x.notion(2, 0), UNKNOWN);
        due.is("axiom(0, 0)", x.axiom(0, 0), UNKNOWN);
        NotionRounds y = new NotionRounds();
        y.make();
        due.is("another object's make() here", x.count(0), 2);
    }

    private static void make() {
        NotionRounds x = new NotionRounds();
        for (int c = 0; c < 10; c++) {
            due.is("make() " + c, x.make(), 2 + c);
        }
        due.is("make() of an 11th class", x.make(), FULL);
        due.is("count(0) then", x.count(0), 12);
        due.is("count(1) then", x.count(1), 10);
        due.is("has(0, 0) then", x.has(0, 0), 12);
        due.is("make() after it", x.make(), FULL);
    }

    private static void makeAtTwentyNotions() {
        NotionRounds x = new NotionRounds();
        for (int c = 0; c < 9; c++) {
            x.make();
        }
        for (int h = 0; h < 9; h++) {
            due.is("has " + h, x.has(h % 4, h), 11 + h);
        }
        due.is("count(0)", x.count(0), 20);
        due.is("make() of a 10th class at 20 notions", x.make(), FULL);
        due.is("count(1) then", x.count(1), 9);
    }

    private static void meet() {
        NotionRounds x = new NotionRounds();
        x.make();
        x.make();
        due.is("meet(3, 2)", x.meet(3, 2), 4);
        due.is("its first part", x.notion(4, 1), 2);
        due.is("its second part", x.notion(4, 2), 3);
        due.is("meet(2, 3)", x.meet(2, 3), 4);
        due.is("meet(3, 3)", x.meet(3, 3), 3);
        due.is("meet(0, 1)", x.meet(0, 1), 5);
        due.is("meet(4, 0)", x.meet(4, 0), 6);
        due.is("meet of a meet: first part", x.notion(6, 1), 0);
        due.is("meet of a meet: second part", x.notion(6, 2), 4);
        due.is("meet(7, 7)", x.meet(7, 7), UNKNOWN);
        due.is("meet(0, 7)", x.meet(0, 7), UNKNOWN);
        due.is("meet(7, 0)", x.meet(7, 0), UNKNOWN);
        due.is("meet(-1, 0)", x.meet(-1, 0), UNKNOWN);
        due.is("meet(0, MIN)", x.meet(0, Integer.MIN_VALUE), UNKNOWN);
        due.is("meet(MAX, MAX)", x.meet(Integer.MAX_VALUE, Integer.MAX_VALUE), UNKNOWN);
        due.is("count(0)", x.count(0), 7);
        due.is("count(1)", x.count(1), 2);
    }

    private static void has() {
        NotionRounds x = new NotionRounds();
        x.make();
        due.is("has(0, 2)", x.has(0, 2), 3);
        due.is("has(3, 2)", x.has(3, 2), 4);
        due.is("has(0, 2) again", x.has(0, 2), 3);
        due.is("has(0, 3)", x.has(0, 3), 5);
        due.is("has(1, 1)", x.has(1, 1), 6);
        due.is("has(4, 2)", x.has(4, 2), OUTSIDE);
        due.is("has(-1, 2)", x.has(-1, 2), OUTSIDE);
        due.is("has(0, 7)", x.has(0, 7), UNKNOWN);
        due.is("has(0, -1)", x.has(0, -1), UNKNOWN);
        due.is("has(4, 7): UNKNOWN is told first", x.has(4, 7), UNKNOWN);
        due.is("has(MIN, MAX)", x.has(Integer.MIN_VALUE, Integer.MAX_VALUE), UNKNOWN);
        due.is("has(MAX, 0)", x.has(Integer.MAX_VALUE, 0), OUTSIDE);
        due.is("count(0)", x.count(0), 7);
        // HAS 0 2 and MEET 0 2 have the same parts: they are two notions.
        due.is("meet(0, 2)", x.meet(0, 2), 7);
        due.is("has(0, 2)", x.has(0, 2), 3);
    }

    private static void fullOfNotions() {
        NotionRounds x = new NotionRounds();
        x.make();
        x.meet(0, 2);
        for (int n = 4; n < 20; n++) {
            due.is("has() up to 20 notions", x.has(n % 4, n - 1), n);
        }
        due.is("has(0, 0) at 20", x.has(0, 0), FULL);
        due.is("meet(0, 1) at 20", x.meet(0, 1), FULL);
        due.is("make() at 20", x.make(), FULL);
        due.is("the meet there is", x.meet(2, 0), 3);
        due.is("the meet of a notion with itself", x.meet(19, 19), 19);
        due.is("the has there is", x.has(0, 3), 4);
        due.is("meet(0, 20): UNKNOWN is told first", x.meet(0, 20), UNKNOWN);
        due.is("has(4, 0): OUTSIDE is told first", x.has(4, 0), OUTSIDE);
        due.is("count(0)", x.count(0), 20);
    }

    private static void notion() {
        NotionRounds x = new NotionRounds();
        x.make();
        x.meet(2, 1);
        x.has(3, 2);
        int[][] want = {{0, -1, -1}, {1, -1, -1}, {2, -1, -1}, {3, 1, 2}, {4, 3, 2}};
        for (int n = 0; n < want.length; n++) {
            for (int what = 0; what < 3; what++) {
                due.is("notion(" + n + ", " + what + ")", x.notion(n, what), want[n][what]);
            }
        }
        due.is("notion(4, 3)", x.notion(4, 3), OUTSIDE);
        due.is("notion(4, -1)", x.notion(4, -1), OUTSIDE);
        due.is("notion(5, 3): UNKNOWN is told first", x.notion(5, 3), UNKNOWN);
        due.is("notion(-1, 0)", x.notion(-1, 0), UNKNOWN);
        due.is("notion(MAX, 0)", x.notion(Integer.MAX_VALUE, 0), UNKNOWN);
        due.is("notion(0, MIN)", x.notion(0, Integer.MIN_VALUE), OUTSIDE);
    }
}
