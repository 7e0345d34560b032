/** Calls by their names: on the program, and on the slow reading of the document. */
final class Call {
    private Call() {
    }

    static long on(NotionRounds x, String name, int... n) {
        switch (name + n.length) {
            case "make0": return x.make();
            case "meet2": return x.meet(n[0], n[1]);
            case "has2": return x.has(n[0], n[1]);
            case "say2": return x.say(n[0], n[1]);
            case "role2": return x.role(n[0], n[1]);
            case "chain3": return x.chain(n[0], n[1], n[2]);
            case "unsay1": return x.unsay(n[0]);
            case "notion2": return x.notion(n[0], n[1]);
            case "axiom2": return x.axiom(n[0], n[1]);
            case "conclude0": return x.conclude();
            case "rounds0": return x.rounds();
            case "conclusion2": return x.conclusion(n[0], n[1]);
            case "is2": return x.is(n[0], n[1]);
            case "to3": return x.to(n[0], n[1], n[2]);
            case "proof1": return x.proof(n[0]);
            case "under2": return x.under(n[0], n[1]);
            case "like1": return x.like(n[0]);
            case "parent2": return x.parent(n[0], n[1]);
            case "broken0": return x.broken();
            case "things0": return x.things();
            case "isOf2": return x.isOf(n[0], n[1]);
            case "pair3": return x.pair(n[0], n[1], n[2]);
            case "holds1": return x.holds(n[0]);
            case "count1": return x.count(n[0]);
            case "digest0": return x.digest();
            default: throw new IllegalArgumentException("no such call: " + name + " of " + n.length);
        }
    }

    static long on(SlowRounds y, String name, int... n) {
        switch (name + n.length) {
            case "make0": return y.make();
            case "meet2": return y.meet(n[0], n[1]);
            case "has2": return y.has(n[0], n[1]);
            case "say2": return y.say(n[0], n[1]);
            case "role2": return y.role(n[0], n[1]);
            case "chain3": return y.chain(n[0], n[1], n[2]);
            case "unsay1": return y.unsay(n[0]);
            case "notion2": return y.notion(n[0], n[1]);
            case "axiom2": return y.axiom(n[0], n[1]);
            case "conclude0": return y.conclude();
            case "rounds0": return y.rounds();
            case "conclusion2": return y.conclusion(n[0], n[1]);
            case "is2": return y.is(n[0], n[1]);
            case "to3": return y.to(n[0], n[1], n[2]);
            case "proof1": return y.proof(n[0]);
            case "under2": return y.under(n[0], n[1]);
            case "like1": return y.like(n[0]);
            case "parent2": return y.parent(n[0], n[1]);
            case "broken0": return y.broken();
            case "things0": return y.things();
            case "isOf2": return y.isOf(n[0], n[1]);
            case "pair3": return y.pair(n[0], n[1], n[2]);
            case "holds1": return y.holds(n[0]);
            case "count1": return y.count(n[0]);
            case "digest0": return y.digest();
            default: throw new IllegalArgumentException("no such call: " + name + " of " + n.length);
        }
    }
}
