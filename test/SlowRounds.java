import java.util.ArrayList;
import java.util.Arrays;
import java.util.Comparator;
import java.util.List;
import java.util.TreeMap;

/**
 * The document read word by word, with no thought of speed and with nothing
 * of the program: lists, and every rule tried on all pairs of conclusions.
 */
final class SlowRounds {
    static final int NONE = -1, UNKNOWN = -101, OUTSIDE = -102, STATE = -103, FULL = -104;

    /** One conclusion; its numbers are those that conclusion() tells. */
    record Told(int sort, int x, int d, int r, int round, int rule, int first, int second, int axiom) {
        boolean is(int x, int d) {
            return sort == 0 && this.x == x && this.d == d;
        }

        boolean to(int x, int r, int y) {
            return sort == 1 && this.x == x && this.r == r && d == y;
        }

        int[] parts() {
            return new int[] {sort, x, d, r, round, rule, first, second, axiom};
        }
    }

    private static final Comparator<Told> IN_A_ROUND = Comparator.comparingInt(Told::x)
        .thenComparingInt(Told::sort).thenComparingInt(Told::r).thenComparingInt(Told::d);
    private static final Comparator<Told> BY_WHY = Comparator.comparingInt(Told::rule)
        .thenComparingInt(Told::first).thenComparingInt(Told::second).thenComparingInt(Told::axiom);

    private final List<int[]> notions = new ArrayList<>();
    private final List<int[]> axioms = new ArrayList<>();
    private final List<Told> told = new ArrayList<>();
    private int concluded = 0;
    private int rounds = 0;
    private boolean fresh = false;

    SlowRounds() {
        notions.add(new int[] {0, NONE, NONE});
        notions.add(new int[] {1, NONE, NONE});
    }

    // ---- notions, axioms

    int make() {
        return count(1) == 10 ? FULL : newNotion(2, NONE, NONE);
    }

    int meet(int a, int b) {
        if (!notion(a) || !notion(b)) return UNKNOWN;
        if (a == b) return a;
        int there = numberOf(3, Math.min(a, b), Math.max(a, b));
        return there != NONE ? there : newNotion(3, Math.min(a, b), Math.max(a, b));
    }

    int has(int r, int a) {
        if (!notion(a)) return UNKNOWN;
        if (!role(r)) return OUTSIDE;
        int there = numberOf(4, r, a);
        return there != NONE ? there : newNotion(4, r, a);
    }

    int say(int a, int b) {
        return notion(a) && notion(b) ? newAxiom(0, a, b, NONE) : UNKNOWN;
    }

    int role(int r, int s) {
        return role(r) && role(s) ? newAxiom(1, r, s, NONE) : OUTSIDE;
    }

    int chain(int r, int s, int t) {
        return role(r) && role(s) && role(t) ? newAxiom(2, r, s, t) : OUTSIDE;
    }

    int unsay(int a) {
        if (!axiom(a) || axioms.get(a)[4] == 0) return UNKNOWN;
        axioms.get(a)[4] = 0;
        fresh = false;
        return 1;
    }

    int notion(int n, int what) {
        if (!notion(n)) return UNKNOWN;
        return what < 0 || what > 2 ? OUTSIDE : notions.get(n)[what];
    }

    int axiom(int a, int what) {
        if (!axiom(a)) return UNKNOWN;
        return what < 0 || what > 4 ? OUTSIDE : axioms.get(a)[what];
    }

    private boolean notion(int n) {
        return n >= 0 && n < notions.size();
    }

    private boolean axiom(int a) {
        return a >= 0 && a < axioms.size();
    }

    private boolean role(int r) {
        return r >= 0 && r <= 3;
    }

    private int numberOf(int... parts) {
        for (int n = 0; n < notions.size(); n++) {
            if (Arrays.equals(notions.get(n), parts)) return n;
        }
        return NONE;
    }

    private int newNotion(int... parts) {
        if (notions.size() == 20) return FULL;
        notions.add(parts);
        fresh = false;
        return notions.size() - 1;
    }

    private int newAxiom(int sort, int first, int second, int third) {
        if (axioms.size() == 40) return FULL;
        axioms.add(new int[] {sort, first, second, third, 1});
        fresh = false;
        return axioms.size() - 1;
    }

    private boolean holdsNow(int a, int sort) {
        return axioms.get(a)[0] == sort && axioms.get(a)[4] == 1;
    }

    /** By one axiom or more, or itself: four roles need no longer way than three. */
    private boolean roleIs(int r, int s, int steps) {
        if (r == s) return true;
        for (int a = 0; a < axioms.size() && steps > 0; a++) {
            if (holdsNow(a, 1) && axioms.get(a)[1] == r && roleIs(axioms.get(a)[2], s, steps - 1)) return true;
        }
        return false;
    }

    private boolean roleIs(int r, int s) {
        return roleIs(r, s, 3);
    }

    // ---- conclusions

    int conclude() {
        if (concluded == 20) return STATE;
        concluded++;
        fresh = true;
        told.clear();
        rounds = 0;
        while (true) {
            TreeMap<Told, Told> found = new TreeMap<>(IN_A_ROUND);
            for (Told t : allGiven(rounds + 1)) {
                if (numberOf(t) == NONE) found.merge(t, t, (p, q) -> BY_WHY.compare(p, q) <= 0 ? p : q);
            }
            if (found.isEmpty()) return told.size();
            told.addAll(found.values());
            rounds++;
        }
    }

    private List<Told> allGiven(int round) {
        List<Told> given = new ArrayList<>();
        for (int x = 0; x < notions.size(); x++) {
            if (x == 0 || notions.get(x)[0] == 2) giveBegun(given, x, round, NONE);
        }
        for (int i = 0; i < told.size(); i++) {
            Told p = told.get(i);
            if (p.sort == 0) {
                giveByOne(given, p, i, round);
            } else {
                giveBegun(given, p.d, round, i);
            }
            for (int j = 0; j < told.size(); j++) {
                giveByTwo(given, p, i, told.get(j), j, round);
            }
        }
        return given;
    }

    private void giveBegun(List<Told> given, int x, int round, int premise) {
        given.add(new Told(0, x, x, NONE, round, 0, premise, NONE, NONE));
        given.add(new Told(0, x, 0, NONE, round, 1, premise, NONE, NONE));
    }

    private void giveByOne(List<Told> given, Told p, int i, int round) {
        int[] d = notions.get(p.d);
        if (d[0] == 3) {
            given.add(new Told(0, p.x, d[1], NONE, round, 2, i, NONE, NONE));
            given.add(new Told(0, p.x, d[2], NONE, round, 2, i, NONE, NONE));
        }
        for (int a = 0; a < axioms.size(); a++) {
            if (holdsNow(a, 0) && axioms.get(a)[1] == p.d) {
                given.add(new Told(0, p.x, axioms.get(a)[2], NONE, round, 4, i, NONE, a));
            }
        }
        if (d[0] == 4) given.add(new Told(1, p.x, d[2], d[1], round, 5, i, NONE, NONE));
    }

    private void giveByTwo(List<Told> given, Told p, int i, Told q, int j, int round) {
        if (p.sort == 0 && q.sort == 0 && p.x == q.x) {
            int m = numberOf(3, p.d, q.d);
            if (m != NONE) given.add(new Told(0, p.x, m, NONE, round, 3, i, j, NONE));
        }
        if (p.sort == 1 && q.sort == 0 && p.d == q.x) {
            for (int s = 0; s <= 3; s++) {
                int h = numberOf(4, s, q.d);
                if (h != NONE && roleIs(p.r, s)) given.add(new Told(0, p.x, h, NONE, round, 6, i, j, NONE));
            }
            if (q.d == 1) given.add(new Told(0, p.x, 1, NONE, round, 7, i, j, NONE));
        }
        if (p.sort == 1 && q.sort == 1 && p.d == q.x) {
            for (int a = 0; a < axioms.size(); a++) {
                int[] c = axioms.get(a);
                if (holdsNow(a, 2) && roleIs(p.r, c[1]) && roleIs(q.r, c[2])) {
                    given.add(new Told(1, p.x, q.d, c[3], round, 8, i, j, a));
                }
            }
        }
    }

    private int numberOf(Told t) {
        return t.sort == 0 ? isNumber(t.x, t.d) : toNumber(t.x, t.r, t.d);
    }

    private int isNumber(int x, int d) {
        for (int k = 0; k < told.size(); k++) {
            if (told.get(k).is(x, d)) return k;
        }
        return NONE;
    }

    private int toNumber(int x, int r, int y) {
        for (int k = 0; k < told.size(); k++) {
            if (told.get(k).to(x, r, y)) return k;
        }
        return NONE;
    }

    /** How many conclusions were made last, for a test that draws one of them. */
    int toldSize() {
        return told.size();
    }

    int rounds() {
        return fresh ? rounds : STATE;
    }

    int conclusion(int k, int what) {
        if (!fresh) return STATE;
        if (k < 0 || k >= told.size()) return UNKNOWN;
        return what < 0 || what > 8 ? OUTSIDE : told.get(k).parts()[what];
    }

    int is(int x, int d) {
        if (!fresh) return STATE;
        return notion(x) && notion(d) ? isNumber(x, d) : UNKNOWN;
    }

    int to(int x, int r, int y) {
        if (!fresh) return STATE;
        if (!notion(x) || !notion(y)) return UNKNOWN;
        return role(r) ? toNumber(x, r, y) : OUTSIDE;
    }

    int proof(int k) {
        if (!fresh) return STATE;
        if (k < 0 || k >= told.size()) return UNKNOWN;
        List<Integer> led = new ArrayList<>(List.of(k));
        for (int i = 0; i < led.size(); i++) {
            for (int p : new int[] {told.get(led.get(i)).first, told.get(led.get(i)).second}) {
                if (p != NONE && !led.contains(p)) led.add(p);
            }
        }
        return led.size();
    }

    // ---- what is under what

    int under(int x, int y) {
        if (!fresh) return STATE;
        return named(x) && named(y) ? one(isUnder(x, y)) : UNKNOWN;
    }

    int like(int x) {
        if (!fresh) return STATE;
        return named(x) ? leastLike(x) : UNKNOWN;
    }

    int parent(int x, int k) {
        if (!fresh) return STATE;
        if (!named(x)) return UNKNOWN;
        List<Integer> parents = new ArrayList<>();
        for (int y = 0; y < notions.size(); y++) {
            if (!named(y) || alike(x, y) || !isUnder(x, y) || leastLike(y) != y) continue;
            boolean between = false;
            for (int z = 0; z < notions.size(); z++) {
                between |= named(z) && isUnder(x, z) && isUnder(z, y) && !alike(x, z) && !alike(y, z);
            }
            if (!between) parents.add(y);
        }
        return k >= 0 && k < parents.size() ? parents.get(k) : NONE;
    }

    int broken() {
        return fresh ? one(isNumber(0, 1) != NONE) : STATE;
    }

    private boolean named(int x) {
        return notion(x) && notions.get(x)[0] <= 2;
    }

    private boolean isUnder(int x, int y) {
        return isNumber(x, y) != NONE || isNumber(x, 1) != NONE || x == 1 || isNumber(0, 1) != NONE;
    }

    private boolean alike(int x, int y) {
        return isUnder(x, y) && isUnder(y, x);
    }

    private int leastLike(int x) {
        int y = 0;
        while (!named(y) || !alike(x, y)) y++;
        return y;
    }

    // ---- the house

    int things() {
        if (!fresh) return STATE;
        int found = 0;
        for (int x = 0; x < notions.size(); x++) found += one(thing(x));
        return found;
    }

    int isOf(int x, int d) {
        if (!fresh) return STATE;
        if (!notion(x) || !notion(d)) return UNKNOWN;
        return thing(x) ? one(of(x, d)) : NONE;
    }

    int pair(int x, int s, int y) {
        if (!fresh) return STATE;
        if (!notion(x) || !notion(y)) return UNKNOWN;
        return role(s) ? one(paired(x, s, y)) : OUTSIDE;
    }

    int holds(int a) {
        if (!fresh) return STATE;
        if (!axiom(a)) return UNKNOWN;
        int[] said = axioms.get(a);
        int n = notions.size();
        for (int x = 0; x < n; x++) {
            if (said[0] == 0 && thing(x) && of(x, said[1]) && !of(x, said[2])) return 0;
            for (int y = 0; y < n; y++) {
                if (said[0] == 1 && paired(x, said[1], y) && !paired(x, said[2], y)) return 0;
                for (int z = 0; z < n && said[0] == 2; z++) {
                    if (paired(x, said[1], y) && paired(y, said[2], z) && !paired(x, said[3], z)) return 0;
                }
            }
        }
        return 1;
    }

    private boolean begun(int x) {
        boolean begun = x == 0 || notions.get(x)[0] == 2;
        for (Told t : told) begun |= t.sort == 1 && t.d == x;
        return begun;
    }

    private boolean thing(int x) {
        return begun(x) && isNumber(x, 1) == NONE;
    }

    private boolean paired(int x, int s, int y) {
        for (Told t : told) {
            if (t.sort == 1 && t.x == x && t.d == y && roleIs(t.r, s) && thing(x) && thing(y)) return true;
        }
        return false;
    }

    private boolean of(int x, int d) {
        int[] parts = notions.get(d);
        switch (parts[0]) {
            case 0: return true;
            case 1: return false;
            case 2: return isNumber(x, d) != NONE;
            case 3: return of(x, parts[1]) && of(x, parts[2]);
            default:
                for (int y = 0; y < notions.size(); y++) {
                    if (paired(x, parts[1], y) && of(y, parts[2])) return true;
                }
                return false;
        }
    }

    // ---- what is told

    int count(int what) {
        int found = 0;
        switch (what) {
            case 0: return notions.size();
            case 1:
                for (int[] n : notions) found += one(n[0] == 2);
                return found;
            case 2: return axioms.size();
            case 3:
                for (int[] a : axioms) found += a[4];
                return found;
            case 4: return concluded;
            default: return OUTSIDE;
        }
    }

    long digest() {
        long h = 61;
        for (int[] n : notions) for (int part : n) h = 31 * h + part;
        for (int[] a : axioms) for (int part : a) h = 31 * h + part;
        if (fresh) for (Told t : told) for (int part : t.parts()) h = 31 * h + part;
        return h;
    }

    private static int one(boolean so) {
        return so ? 1 : 0;
    }
}
