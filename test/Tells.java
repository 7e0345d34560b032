import java.util.ArrayList;
import java.util.List;

/** All calls that only tell, each with all its numbers and the first ones beyond them: what an object is, seen from outside. */
final class Tells {
    private final List<String> calls = new ArrayList<>();

    private Tells() {
    }

    static List<String> all(int notions, int axioms, int conclusions) {
        Tells t = new Tells();
        for (String call : new String[] {"digest()", "rounds()", "broken()", "things()"}) {
            t.calls.add(call);
        }
        t.two("notion", notions, 3);
        t.two("axiom", axioms, 5);
        t.two("conclusion", conclusions, 9);
        t.two("is", notions, notions);
        t.three("to", notions);
        t.one("proof", conclusions);
        t.two("under", notions, notions);
        t.one("like", notions);
        t.two("parent", notions, 4);
        t.two("isOf", notions, notions);
        t.three("pair", notions);
        t.one("holds", axioms);
        t.one("count", 5);
        return t.calls;
    }

    private void one(String name, int beyond) {
        for (int a = -1; a <= beyond; a++) {
            calls.add(name + "(" + a + ")");
        }
    }

    private void two(String name, int beyond, int secondBeyond) {
        for (int a = -1; a <= beyond; a++) {
            for (int b = -1; b <= secondBeyond; b++) {
                calls.add(name + "(" + a + ", " + b + ")");
            }
        }
    }

    private void three(String name, int beyond) {
        for (int a = -1; a <= beyond; a++) {
            for (int r = -1; r <= 4; r++) {
                for (int b = -1; b <= beyond; b++) {
                    calls.add(name + "(" + a + ", " + r + ", " + b + ")");
                }
            }
        }
    }
}
