/**
 * A classifier for notions: what follows from the axioms is concluded round by
 * round, each conclusion with the rule and the conclusions that gave it.
 *
 * <p>Every row is made once, with the object, and used again by each conclude().
 */
public final class NotionRounds {
    public static final int NONE = -1, UNKNOWN = -101, OUTSIDE = -102, STATE = -103, FULL = -104;

    private static final int MOST_NOTIONS = 20;
    private static final int MOST_CLASSES = 10;
    private static final int MOST_AXIOMS = 40;
    private static final int MOST_CONCLUDES = 20;
    private static final int ROLES = 4;

    // The sorts of notions; the first two are also the numbers of their only notions.
    private static final int THING = 0;
    private static final int NOTHING = 1;
    private static final int CLASS = 2;
    private static final int MEET = 3;
    private static final int HAS = 4;
    private static final int NOTION_PARTS = 3;

    // The sorts of axioms.
    private static final int NOTION_IS = 0;
    private static final int ROLE_IS = 1;
    private static final int CHAIN_IS = 2;
    private static final int AXIOM_PARTS = 5;
    private static final int HOLDING_PART = 4;

    // A place stands for one possible conclusion. Places ascend just as the
    // conclusions of one round are ordered: by x, IS by d, then TO by r and y.
    private static final int PLACES_OF_ONE = MOST_NOTIONS + ROLES * MOST_NOTIONS;
    private static final int PLACES = MOST_NOTIONS * PLACES_OF_ONE;
    private static final int CONCLUSION_PARTS = 9;

    private static final int RULE_SELF = 0;
    private static final int RULE_ALL = 1;
    private static final int RULE_PARTS = 2;
    private static final int RULE_MEETS = 3;
    private static final int RULE_AXIOM = 4;
    private static final int RULE_OUT = 5;
    private static final int RULE_BACK = 6;
    private static final int RULE_NONE = 7;
    private static final int RULE_CHAIN = 8;

    // A why is one number, so that the least one is the first by rule, first
    // premise, second premise, axiom; each of the three is raised by one for NONE.
    private static final int AXIOM_BITS = 6;
    private static final int PREMISE_BITS = 11;
    private static final int SECOND_SHIFT = AXIOM_BITS;
    private static final int FIRST_SHIFT = SECOND_SHIFT + PREMISE_BITS;
    private static final int RULE_SHIFT = FIRST_SHIFT + PREMISE_BITS;
    private static final long NO_WHY = 1L << 62;

    private final Notions notions;
    private final Axioms axioms;
    private final Roles roles;
    private final Conclusions conclusions;
    private final Rules rules;
    private final House house;
    private int concludes;
    private boolean current;

    public NotionRounds() {
        notions = new Notions();
        axioms = new Axioms();
        roles = new Roles();
        conclusions = new Conclusions();
        rules = new Rules(notions, axioms, roles, conclusions);
        house = new House();
        concludes = 0;
        current = false;
    }

    // ---- notions, axioms

    public int make() {
        if (notions.classes >= MOST_CLASSES) {
            return FULL;
        }
        return addNotion(CLASS, NONE, NONE);
    }

    public int meet(int a, int b) {
        if (!notions.knows(a) || !notions.knows(b)) {
            return UNKNOWN;
        }
        if (a == b) {
            return a;
        }
        return findOrAddNotion(MEET, Math.min(a, b), Math.max(a, b));
    }

    public int has(int r, int a) {
        if (!notions.knows(a)) {
            return UNKNOWN;
        }
        if (!isRole(r)) {
            return OUTSIDE;
        }
        return findOrAddNotion(HAS, r, a);
    }

    public int say(int a, int b) {
        if (!notions.knows(a) || !notions.knows(b)) {
            return UNKNOWN;
        }
        return addAxiom(NOTION_IS, a, b, NONE);
    }

    public int role(int r, int s) {
        if (!isRole(r) || !isRole(s)) {
            return OUTSIDE;
        }
        return addAxiom(ROLE_IS, r, s, NONE);
    }

    public int chain(int r, int s, int t) {
        if (!isRole(r) || !isRole(s) || !isRole(t)) {
            return OUTSIDE;
        }
        return addAxiom(CHAIN_IS, r, s, t);
    }

    public int unsay(int a) {
        if (!axioms.holding(a)) {
            return UNKNOWN;
        }
        axioms.takeBack(a);
        current = false;
        return 1;
    }

    public int notion(int n, int what) {
        if (!notions.knows(n)) {
            return UNKNOWN;
        }
        if (!within(what, NOTION_PARTS)) {
            return OUTSIDE;
        }
        return notions.part(n, what);
    }

    public int axiom(int a, int what) {
        if (!axioms.knows(a)) {
            return UNKNOWN;
        }
        if (!within(what, AXIOM_PARTS)) {
            return OUTSIDE;
        }
        return axioms.part(a, what);
    }

    // ---- conclusions

    public int conclude() {
        if (concludes >= MOST_CONCLUDES) {
            return STATE;
        }
        concludes++;
        rules.concludeAll();
        house.build(notions, roles, conclusions);
        current = true;
        return conclusions.size;
    }

    public int rounds() {
        return current ? conclusions.lastRound : STATE;
    }

    public int conclusion(int k, int what) {
        if (!current) {
            return STATE;
        }
        if (!conclusions.knows(k)) {
            return UNKNOWN;
        }
        if (!within(what, CONCLUSION_PARTS)) {
            return OUTSIDE;
        }
        return conclusions.part(k, what);
    }

    public int is(int x, int d) {
        if (!current) {
            return STATE;
        }
        if (!notions.knows(x) || !notions.knows(d)) {
            return UNKNOWN;
        }
        return conclusions.numberOfIs(x, d);
    }

    public int to(int x, int r, int y) {
        if (!current) {
            return STATE;
        }
        if (!notions.knows(x) || !notions.knows(y)) {
            return UNKNOWN;
        }
        if (!isRole(r)) {
            return OUTSIDE;
        }
        return conclusions.numberOfTo(x, r, y);
    }

    public int proof(int k) {
        if (!current) {
            return STATE;
        }
        if (!conclusions.knows(k)) {
            return UNKNOWN;
        }
        return conclusions.proofSize(k);
    }

    // ---- what is under what

    public int under(int x, int y) {
        if (!current) {
            return STATE;
        }
        if (!notions.named(x) || !notions.named(y)) {
            return UNKNOWN;
        }
        return oneIf(isUnder(x, y));
    }

    public int like(int x) {
        if (!current) {
            return STATE;
        }
        if (!notions.named(x)) {
            return UNKNOWN;
        }
        return leastLike(x);
    }

    public int parent(int x, int k) {
        if (!current) {
            return STATE;
        }
        if (!notions.named(x)) {
            return UNKNOWN;
        }
        int before = 0;
        for (int y = 0; y < notions.size; y++) {
            if (notions.named(y) && isParent(x, y)) {
                if (before == k) {
                    return y;
                }
                before++;
            }
        }
        return NONE;
    }

    public int broken() {
        return current ? oneIf(conclusions.saysIs(THING, NOTHING)) : STATE;
    }

    // ---- the house

    public int things() {
        return current ? Integer.bitCount(house.members(THING)) : STATE;
    }

    public int isOf(int x, int d) {
        if (!current) {
            return STATE;
        }
        if (!notions.knows(x) || !notions.knows(d)) {
            return UNKNOWN;
        }
        if (!hasBit(house.members(THING), x)) {
            return NONE;
        }
        return oneIf(hasBit(house.members(d), x));
    }

    public int pair(int x, int s, int y) {
        if (!current) {
            return STATE;
        }
        if (!notions.knows(x) || !notions.knows(y)) {
            return UNKNOWN;
        }
        if (!isRole(s)) {
            return OUTSIDE;
        }
        return oneIf(hasBit(house.partners(s, x), y));
    }

    public int holds(int a) {
        if (!current) {
            return STATE;
        }
        if (!axioms.knows(a)) {
            return UNKNOWN;
        }
        return oneIf(isSo(a));
    }

    // ---- what is told

    public int count(int what) {
        switch (what) {
            case 0:
                return notions.size;
            case 1:
                return notions.classes;
            case 2:
                return axioms.size;
            case 3:
                return axioms.holdingCount();
            case 4:
                return concludes;
            default:
                return OUTSIDE;
        }
    }

    public long digest() {
        long h = 61;
        for (int n = 0; n < notions.size; n++) {
            for (int what = 0; what < NOTION_PARTS; what++) {
                h = 31 * h + notions.part(n, what);
            }
        }
        for (int a = 0; a < axioms.size; a++) {
            for (int what = 0; what < AXIOM_PARTS; what++) {
                h = 31 * h + axioms.part(a, what);
            }
        }
        int told = current ? conclusions.size : 0;
        for (int k = 0; k < told; k++) {
            for (int what = 0; what < CONCLUSION_PARTS; what++) {
                h = 31 * h + conclusions.part(k, what);
            }
        }
        return h;
    }

    // ---- parts of the calls above

    private int findOrAddNotion(int sort, int first, int second) {
        int found = notions.find(sort, first, second);
        return found != NONE ? found : addNotion(sort, first, second);
    }

    private int addNotion(int sort, int first, int second) {
        if (notions.size >= MOST_NOTIONS) {
            return FULL;
        }
        current = false;
        return notions.add(sort, first, second);
    }

    private int addAxiom(int sort, int first, int second, int third) {
        if (axioms.size >= MOST_AXIOMS) {
            return FULL;
        }
        current = false;
        return axioms.add(sort, first, second, third);
    }

    private boolean isUnder(int x, int y) {
        return x == NOTHING
            || conclusions.saysIs(x, y)
            || conclusions.saysIs(x, NOTHING)
            || conclusions.saysIs(THING, NOTHING);
    }

    private boolean areLike(int x, int y) {
        return isUnder(x, y) && isUnder(y, x);
    }

    private int leastLike(int x) {
        for (int y = 0; y < x; y++) {
            if (notions.named(y) && areLike(x, y)) {
                return y;
            }
        }
        return x;
    }

    private boolean isParent(int x, int y) {
        if (!isUnder(x, y) || areLike(x, y) || leastLike(y) != y) {
            return false;
        }
        for (int z = 0; z < notions.size; z++) {
            boolean between = notions.named(z) && isUnder(x, z) && isUnder(z, y);
            if (between && !areLike(z, x) && !areLike(z, y)) {
                return false;
            }
        }
        return true;
    }

    private boolean isSo(int a) {
        int first = axioms.part(a, 1);
        int second = axioms.part(a, 2);
        switch (axioms.part(a, 0)) {
            case NOTION_IS:
                return (house.members(first) & ~house.members(second)) == 0;
            case ROLE_IS:
                return house.roleWithin(first, second);
            default:
                return house.chainWithin(first, second, axioms.part(a, 3));
        }
    }

    // ---- small helpers

    private static boolean within(int number, int bound) {
        return number >= 0 && number < bound;
    }

    private static boolean isRole(int r) {
        return within(r, ROLES);
    }

    private static int oneIf(boolean so) {
        return so ? 1 : 0;
    }

    private static int bit(int n) {
        return within(n, MOST_NOTIONS) ? 1 << n : 0;
    }

    private static boolean hasBit(int mask, int n) {
        return (mask & bit(n)) != 0;
    }

    /** Rows are read and written by these, or in a loop over all of a row: no index leaves its row. */
    private static int at(int[] row, int index) {
        return index >= 0 && index < row.length ? row[index] : NONE;
    }

    private static void put(int[] row, int index, int value) {
        if (index >= 0 && index < row.length) {
            row[index] = value;
        }
    }

    private static long longAt(long[] row, int index) {
        return index >= 0 && index < row.length ? row[index] : NO_WHY;
    }

    private static void putLong(long[] row, int index, long value) {
        if (index >= 0 && index < row.length) {
            row[index] = value;
        }
    }

    private static void fill(int[] row, int value) {
        for (int i = 0; i < row.length; i++) {
            row[i] = value;
        }
    }

    private static int placeOfIs(int x, int d) {
        return x * PLACES_OF_ONE + d;
    }

    private static int placeOfTo(int x, int r, int y) {
        return x * PLACES_OF_ONE + MOST_NOTIONS + r * MOST_NOTIONS + y;
    }

    private static int subjectAt(int place) {
        return place / PLACES_OF_ONE;
    }

    /** The d of IS, the y of TO. */
    private static int objectAt(int place) {
        return place % PLACES_OF_ONE % MOST_NOTIONS;
    }

    /** The r of TO, NONE of IS. */
    private static int roleAt(int place) {
        return place % PLACES_OF_ONE / MOST_NOTIONS - 1;
    }

    private static long whyOf(int rule, int first, int second, int axiom) {
        return ((long) rule << RULE_SHIFT)
            | ((long) (first + 1) << FIRST_SHIFT)
            | ((long) (second + 1) << SECOND_SHIFT)
            | (axiom + 1);
    }

    /** No why at all, which is never the least one, where the second premise is not there. */
    private static long whyOfTwo(int rule, int first, int second) {
        return second == NONE ? NO_WHY : whyOf(rule, first, second, NONE);
    }

    private static int partOfWhy(long why, int shift, int bits) {
        return (int) (why >> shift) & ((1 << bits) - 1);
    }

    /** The notions, numbered as they were made. */
    private static final class Notions {
        private final int[] parts = new int[MOST_NOTIONS * NOTION_PARTS];
        private int size;
        private int classes;

        Notions() {
            add(THING, NONE, NONE);
            add(NOTHING, NONE, NONE);
        }

        int add(int sort, int first, int second) {
            int start = size * NOTION_PARTS;
            put(parts, start, sort);
            put(parts, start + 1, first);
            put(parts, start + 2, second);
            if (sort == CLASS) {
                classes++;
            }
            return size++;
        }

        boolean knows(int n) {
            return within(n, size);
        }

        /** Whether n is a CLASS, THING or NOTHING, which alone are under one another. */
        boolean named(int n) {
            return knows(n) && sort(n) <= CLASS;
        }

        boolean seed(int n) {
            return n == THING || sort(n) == CLASS;
        }

        int part(int n, int what) {
            return at(parts, n * NOTION_PARTS + what);
        }

        int sort(int n) {
            return part(n, 0);
        }

        int first(int n) {
            return part(n, 1);
        }

        int second(int n) {
            return part(n, 2);
        }

        int find(int sort, int first, int second) {
            for (int n = 0; n < size; n++) {
                if (sort(n) == sort && first(n) == first && second(n) == second) {
                    return n;
                }
            }
            return NONE;
        }
    }

    /** The axioms, numbered as they were said; one that is taken back keeps its number. */
    private static final class Axioms {
        private final int[] parts = new int[MOST_AXIOMS * AXIOM_PARTS];
        private int size;

        int add(int sort, int first, int second, int third) {
            int start = size * AXIOM_PARTS;
            put(parts, start, sort);
            put(parts, start + 1, first);
            put(parts, start + 2, second);
            put(parts, start + 3, third);
            put(parts, start + HOLDING_PART, 1);
            return size++;
        }

        void takeBack(int a) {
            put(parts, a * AXIOM_PARTS + HOLDING_PART, 0);
        }

        boolean knows(int a) {
            return within(a, size);
        }

        int part(int a, int what) {
            return at(parts, a * AXIOM_PARTS + what);
        }

        boolean holding(int a) {
            return knows(a) && part(a, HOLDING_PART) == 1;
        }

        boolean holdingOf(int a, int sort) {
            return part(a, HOLDING_PART) == 1 && part(a, 0) == sort;
        }

        int holdingCount() {
            int held = 0;
            for (int a = 0; a < size; a++) {
                held += oneIf(holding(a));
            }
            return held;
        }
    }

    /** Which role is which, and what chains of roles give, by the axioms that hold. */
    private static final class Roles {
        private final int[] above = new int[ROLES * ROLES];
        private final int[] chains = new int[ROLES * ROLES * ROLES];

        void learn(Axioms axioms) {
            fill(above, 0);
            for (int r = 0; r < ROLES; r++) {
                put(above, r * ROLES + r, 1);
            }
            for (int a = 0; a < axioms.size; a++) {
                if (axioms.holdingOf(a, ROLE_IS)) {
                    put(above, axioms.part(a, 1) * ROLES + axioms.part(a, 2), 1);
                }
            }
            for (int middle = 0; middle < ROLES; middle++) {
                joinThrough(middle);
            }
            fill(chains, NONE);
            for (int a = 0; a < axioms.size; a++) {
                if (axioms.holdingOf(a, CHAIN_IS)) {
                    learnChain(a, axioms.part(a, 1), axioms.part(a, 2), axioms.part(a, 3));
                }
            }
        }

        boolean goesUnder(int r, int s) {
            return at(above, r * ROLES + s) == 1;
        }

        /** The least axiom by which r, then s, is t: the only one that a why can name. */
        int axiomOfChain(int r, int s, int t) {
            return at(chains, placeOfChain(r, s, t));
        }

        private void joinThrough(int middle) {
            for (int r = 0; r < ROLES; r++) {
                for (int s = 0; s < ROLES; s++) {
                    if (goesUnder(r, middle) && goesUnder(middle, s)) {
                        put(above, r * ROLES + s, 1);
                    }
                }
            }
        }

        private void learnChain(int a, int p, int q, int t) {
            for (int r = 0; r < ROLES; r++) {
                for (int s = 0; s < ROLES; s++) {
                    if (goesUnder(r, p) && goesUnder(s, q) && axiomOfChain(r, s, t) == NONE) {
                        put(chains, placeOfChain(r, s, t), a);
                    }
                }
            }
        }

        private static int placeOfChain(int r, int s, int t) {
            return (r * ROLES + s) * ROLES + t;
        }
    }

    /** The conclusions, numbered as they were concluded. */
    private static final class Conclusions {
        private final int[] numbers = new int[PLACES];
        private final int[] places = new int[PLACES];
        private final int[] roundsOf = new int[PLACES];
        private final long[] whys = new long[PLACES];
        private final int[] marks = new int[PLACES];
        private int size;
        private int lastRound;

        void clear() {
            fill(numbers, NONE);
            size = 0;
            lastRound = 0;
        }

        void add(int place, int round, long why) {
            put(numbers, place, size);
            put(places, size, place);
            put(roundsOf, size, round);
            putLong(whys, size, why);
            size++;
            lastRound = round;
        }

        boolean knows(int k) {
            return within(k, size);
        }

        int placeOf(int k) {
            return at(places, k);
        }

        int numberOfIs(int x, int d) {
            return at(numbers, placeOfIs(x, d));
        }

        int numberOfTo(int x, int r, int y) {
            return at(numbers, placeOfTo(x, r, y));
        }

        boolean saysAt(int place) {
            return at(numbers, place) != NONE;
        }

        boolean saysIs(int x, int d) {
            return at(numbers, placeOfIs(x, d)) != NONE;
        }

        boolean saysTo(int x, int r, int y) {
            return at(numbers, placeOfTo(x, r, y)) != NONE;
        }

        int firstPremise(int k) {
            return partOfWhy(longAt(whys, k), FIRST_SHIFT, PREMISE_BITS) - 1;
        }

        int secondPremise(int k) {
            return partOfWhy(longAt(whys, k), SECOND_SHIFT, PREMISE_BITS) - 1;
        }

        int part(int k, int what) {
            switch (what) {
                case 0:
                    return oneIf(roleAt(placeOf(k)) != NONE);
                case 1:
                    return subjectAt(placeOf(k));
                case 2:
                    return objectAt(placeOf(k));
                case 3:
                    return roleAt(placeOf(k));
                case 4:
                    return at(roundsOf, k);
                case 5:
                    return (int) (longAt(whys, k) >> RULE_SHIFT);
                case 6:
                    return firstPremise(k);
                case 7:
                    return secondPremise(k);
                default:
                    return partOfWhy(longAt(whys, k), 0, AXIOM_BITS) - 1;
            }
        }

        /** One walk down is enough: premises have lesser numbers than what they give. */
        int proofSize(int k) {
            fill(marks, 0);
            put(marks, k, 1);
            int found = 0;
            for (int i = k; i >= 0; i--) {
                if (at(marks, i) == 1) {
                    found++;
                    put(marks, firstPremise(i), 1);
                    put(marks, secondPremise(i), 1);
                }
            }
            return found;
        }
    }

    /** The rules: in each round they offer whys, and the least one for each new place stays. */
    private static final class Rules {
        private final Notions notions;
        private final Axioms axioms;
        private final Roles roles;
        private final Conclusions conclusions;
        private final long[] offers = new long[PLACES];

        Rules(Notions notions, Axioms axioms, Roles roles, Conclusions conclusions) {
            this.notions = notions;
            this.axioms = axioms;
            this.roles = roles;
            this.conclusions = conclusions;
        }

        /** Nothing is added before all is offered: a round sees only the rounds before it. */
        void concludeAll() {
            conclusions.clear();
            roles.learn(axioms);
            boolean more = true;
            for (int round = 1; round <= PLACES && more; round++) {
                clearOffers();
                offerSeeds();
                for (int k = 0; k < conclusions.size; k++) {
                    offerFrom(k);
                }
                more = addOffered(round);
            }
        }

        private void clearOffers() {
            for (int place = 0; place < offers.length; place++) {
                offers[place] = NO_WHY;
            }
        }

        private boolean addOffered(int round) {
            int before = conclusions.size;
            for (int place = 0; place < offers.length; place++) {
                if (offers[place] != NO_WHY) {
                    conclusions.add(place, round, offers[place]);
                }
            }
            return conclusions.size > before;
        }

        private void offer(int place, long why) {
            if (why < longAt(offers, place) && !conclusions.saysAt(place)) {
                putLong(offers, place, why);
            }
        }

        private void offerSeeds() {
            for (int n = 0; n < notions.size; n++) {
                if (notions.seed(n)) {
                    offerBegun(n, NONE);
                }
            }
        }

        private void offerFrom(int k) {
            int place = conclusions.placeOf(k);
            int x = subjectAt(place);
            int r = roleAt(place);
            if (r == NONE) {
                offerByParts(k, x, objectAt(place));
                offerMeets(k, x, objectAt(place));
                offerByAxioms(k, x, objectAt(place));
            } else {
                offerBegun(objectAt(place), k);
                offerBack(k, x, r, objectAt(place));
                offerChains(k, x, r, objectAt(place));
            }
        }

        private void offerBegun(int x, int premise) {
            offer(placeOfIs(x, x), whyOf(RULE_SELF, premise, NONE, NONE));
            offer(placeOfIs(x, THING), whyOf(RULE_ALL, premise, NONE, NONE));
        }

        private void offerByParts(int k, int x, int d) {
            int first = notions.first(d);
            int second = notions.second(d);
            if (notions.sort(d) == MEET) {
                offer(placeOfIs(x, first), whyOf(RULE_PARTS, k, NONE, NONE));
                offer(placeOfIs(x, second), whyOf(RULE_PARTS, k, NONE, NONE));
            }
            if (notions.sort(d) == HAS) {
                offer(placeOfTo(x, first, second), whyOf(RULE_OUT, k, NONE, NONE));
            }
        }

        private void offerMeets(int k, int x, int d) {
            for (int m = 0; m < notions.size; m++) {
                if (notions.sort(m) == MEET && notions.first(m) == d) {
                    int other = conclusions.numberOfIs(x, notions.second(m));
                    offer(placeOfIs(x, m), whyOfTwo(RULE_MEETS, k, other));
                }
            }
        }

        private void offerByAxioms(int k, int x, int d) {
            for (int a = 0; a < axioms.size; a++) {
                if (axioms.holdingOf(a, NOTION_IS) && axioms.part(a, 1) == d) {
                    offer(placeOfIs(x, axioms.part(a, 2)), whyOf(RULE_AXIOM, k, NONE, a));
                }
            }
        }

        private void offerBack(int k, int x, int r, int y) {
            for (int h = 0; h < notions.size; h++) {
                if (notions.sort(h) == HAS && roles.goesUnder(r, notions.first(h))) {
                    int other = conclusions.numberOfIs(y, notions.second(h));
                    offer(placeOfIs(x, h), whyOfTwo(RULE_BACK, k, other));
                }
            }
            int none = conclusions.numberOfIs(y, NOTHING);
            offer(placeOfIs(x, NOTHING), whyOfTwo(RULE_NONE, k, none));
        }

        private void offerChains(int k, int x, int r, int y) {
            for (int s = 0; s < ROLES; s++) {
                for (int t = 0; t < ROLES; t++) {
                    int a = roles.axiomOfChain(r, s, t);
                    for (int z = 0; z < notions.size && a != NONE; z++) {
                        int next = conclusions.numberOfTo(y, s, z);
                        if (next != NONE) {
                            offer(placeOfTo(x, t, z), whyOf(RULE_CHAIN, k, next, a));
                        }
                    }
                }
            }
        }
    }

    /** The least house, as sets of notions: bit x of a set tells whether x is in it. */
    private static final class House {
        private final int[] membersOf = new int[MOST_NOTIONS];
        private final int[] partnersOf = new int[ROLES * MOST_NOTIONS];

        void build(Notions notions, Roles roles, Conclusions conclusions) {
            int all = 0;
            for (int x = 0; x < notions.size; x++) {
                // By the rule SELF, just what is BEGUN is itself.
                if (conclusions.saysIs(x, x) && !conclusions.saysIs(x, NOTHING)) {
                    all |= bit(x);
                }
            }
            fill(partnersOf, 0);
            for (int x = 0; x < notions.size; x++) {
                for (int y = 0; y < notions.size; y++) {
                    if (hasBit(all, x) && hasBit(all, y)) {
                        buildPair(roles, conclusions, x, y);
                    }
                }
            }
            // Parts have lesser numbers than what is made of them.
            for (int d = 0; d < notions.size; d++) {
                put(membersOf, d, membersByMeaning(notions, conclusions, d, all));
            }
        }

        /** The notions that are of d, as a set. */
        int members(int d) {
            return within(d, MOST_NOTIONS) ? at(membersOf, d) : 0;
        }

        /** The notions that x is paired with by s, as a set. */
        int partners(int s, int x) {
            return isRole(s) && within(x, MOST_NOTIONS) ? at(partnersOf, s * MOST_NOTIONS + x) : 0;
        }

        boolean roleWithin(int r, int s) {
            for (int x = 0; x < MOST_NOTIONS; x++) {
                if ((partners(r, x) & ~partners(s, x)) != 0) {
                    return false;
                }
            }
            return true;
        }

        boolean chainWithin(int r, int s, int t) {
            for (int x = 0; x < MOST_NOTIONS; x++) {
                for (int y = 0; y < MOST_NOTIONS; y++) {
                    if (hasBit(partners(r, x), y) && (partners(s, y) & ~partners(t, x)) != 0) {
                        return false;
                    }
                }
            }
            return true;
        }

        private void buildPair(Roles roles, Conclusions conclusions, int x, int y) {
            for (int r = 0; r < ROLES; r++) {
                for (int s = 0; s < ROLES; s++) {
                    if (conclusions.saysTo(x, r, y) && roles.goesUnder(r, s)) {
                        put(partnersOf, s * MOST_NOTIONS + x, partners(s, x) | bit(y));
                    }
                }
            }
        }

        private int membersByMeaning(Notions notions, Conclusions conclusions, int d, int all) {
            int first = notions.first(d);
            int second = notions.second(d);
            switch (notions.sort(d)) {
                case THING:
                    return all;
                case NOTHING:
                    return 0;
                case CLASS:
                    return all & subjects(notions, conclusions, d);
                case MEET:
                    return members(first) & members(second);
                default:
                    return havers(first, members(second));
            }
        }

        private static int subjects(Notions notions, Conclusions conclusions, int d) {
            int found = 0;
            for (int x = 0; x < notions.size; x++) {
                if (conclusions.saysIs(x, d)) {
                    found |= bit(x);
                }
            }
            return found;
        }

        private int havers(int r, int wanted) {
            int found = 0;
            for (int x = 0; x < MOST_NOTIONS; x++) {
                if ((partners(r, x) & wanted) != 0) {
                    found |= bit(x);
                }
            }
            return found;
        }
    }
}
