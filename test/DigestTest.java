import java.math.BigInteger;

/**
 * "h is 61, then for each of these numbers, in order, 31 times h, and it (as longs, wrapping)": counted once more
 * with whole numbers of any size, which wrap only at the end.
 */
public final class DigestTest {
    private static final Due due = new Due("DigestTest");
    private static final BigInteger ALL_LONGS = BigInteger.ONE.shiftLeft(64);

    private BigInteger h = BigInteger.valueOf(61);

    public static void main(String[] args) {
        smallOnes();
        notOfInts();
        wrapping();
        order();
        withAndWithoutConclusions();
        full();
        due.end();
    }

    private void take(long number) {
        h = h.multiply(BigInteger.valueOf(31)).add(BigInteger.valueOf(number));
    }

    private void take(Talk t, String name, int of, int parts) {
        for (int what = 0; what < parts; what++) {
            take(t.answer(name + "(" + of + ", " + what + ")"));
        }
    }

    private boolean isBeyondLongs() {
        return h.bitLength() > 63;
    }

    private long wrapped() {
        return h.mod(ALL_LONGS).longValue();
    }

    private static DigestTest ofNotionsAndAxioms(Talk t) {
        DigestTest digest = new DigestTest();
        long notions = t.answer("count(0)");
        long axioms = t.answer("count(2)");
        for (int n = 0; n < notions; n++) {
            digest.take(t, "notion", n, 3);
        }
        for (int a = 0; a < axioms; a++) {
            digest.take(t, "axiom", a, 5);
        }
        return digest;
    }

    private static DigestTest ofAll(Talk t, long conclusions) {
        DigestTest digest = ofNotionsAndAxioms(t);
        for (int k = 0; k < conclusions; k++) {
            digest.take(t, "conclusion", k, 9);
        }
        return digest;
    }

    /** Counted by hand: 61; 1891, 58620, 1817219; 56333790, 1746347489, 54136772158. */
    private static void smallOnes() {
        due.on("h is 61, then .. of each notion what notion() tells for 0 to 2").asks("digest() = 54136772158");
        due.on("as longs: one number more").asks("make() = 2, digest() = " + (((54136772158L * 31 + 2) * 31 - 1) * 31 - 1));
    }

    private static void notOfInts() {
        Talk t = due.on("as longs, not as ints").asks("make()");
        due.is("digest() is beyond the ints", t.answer("digest()") > Integer.MAX_VALUE ? 1 : 0, 1);
    }

    /** Three notions stay within the longs; the class made next goes beyond them. */
    private static void wrapping() {
        Talk t = due.on("as longs, wrapping");
        boolean beyond = false;
        boolean below = false;
        for (int made = 0; made < 10; made++) {
            t.asks("make()");
            DigestTest digest = ofNotionsAndAxioms(t);
            t.is("digest()", digest.wrapped());
            beyond |= digest.isBeyondLongs();
            below |= digest.wrapped() < 0;
        }
        due.is("some digest wrapped", beyond ? 1 : 0, 1);
        due.is("some digest is below 0", below ? 1 : 0, 1);
    }

    /** The same parts in another order are another digest. */
    private static void order() {
        long ab = due.on("in order").asks("has(0, 1), has(1, 0)").answer("digest()");
        long ba = due.on("in order").asks("has(1, 0), has(0, 1)").answer("digest()");
        due.is("notions in another order have the same digest", ab == ba ? 1 : 0, 0);
        long cd = due.on("in order").asks("say(0, 1), role(0, 1)").answer("digest()");
        long dc = due.on("in order").asks("role(0, 1), say(0, 1)").answer("digest()");
        due.is("axioms in another order have the same digest", cd == dc ? 1 : 0, 0);
        long held = due.on("in order").asks("say(0, 1)").answer("digest()");
        long taken = due.on("in order").asks("say(0, 1), unsay(0)").answer("digest()");
        due.is("an axiom taken back: one less", held - taken, 1);
    }

    private static void withAndWithoutConclusions() {
        Talk t = due.on("unless STATE, of each CONCLUSION what conclusion() tells for 0 to 8")
            .asks("make() = 2, has(3, 2) = 3, meet(0, 3) = 4, say(2, 3) = 0, role(3, 1) = 1, chain(3, 3, 1) = 2, say(2, 1) = 3, unsay(3) = 1");
        long before = ofNotionsAndAxioms(t).wrapped();
        t.is("digest()", before);
        long conclusions = t.answer("conclude()");
        t.is("digest()", ofAll(t, conclusions).wrapped());
        t.asks("has(3, 2) = 3, unsay(3) = UNKNOWN, conclusion(0, 9) = OUTSIDE");
        t.is("digest()", ofAll(t, conclusions).wrapped());
        t.asks("role(0, 0) = 4");
        t.is("digest()", ofNotionsAndAxioms(t).wrapped());
        conclusions = t.answer("conclude()");
        t.is("digest()", ofAll(t, conclusions).wrapped());
        due.on("of a new object, concluded").asks("conclude() = 1")
            .is("digest()", new DigestTest().and(0, -1, -1, 1, -1, -1, 0, 0, 0, -1, 1, 0, -1, -1, -1).wrapped());
    }

    private DigestTest and(int... numbers) {
        for (int number : numbers) {
            take(number);
        }
        return this;
    }

    /** 20 notions and 40 AXIOMS. */
    private static void full() {
        Talk before = fullTalk();
        before.is("digest()", ofNotionsAndAxioms(before).wrapped());
        Talk concluded = fullTalk().asks("conclude() = 1");
        concluded.is("digest()", ofAll(concluded, 1).wrapped());
    }

    private static Talk fullTalk() {
        Talk t = due.on("as longs, wrapping: of a full object");
        for (int n = 2; n < 20; n++) {
            t.asks("has(" + n % 4 + ", " + (n - 1) + ") = " + n);
        }
        for (int a = 0; a < 40; a++) {
            t.asks(a % 3 == 0 ? "say(19, 18)" : a % 3 == 1 ? "role(3, 2)" : "chain(3, 2, 1)");
        }
        return t.asks("unsay(7) = 1, unsay(39) = 1");
    }
}
