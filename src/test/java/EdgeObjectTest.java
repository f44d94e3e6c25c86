/** The edges of an object: a new one, the states that the other edge tests start from, and its last call. */
public final class EdgeObjectTest {
    private static final String LAST_CALL = "An object is used for at most 512 calls after it has been made";
    private static final int CALLS = 512;

    public static void main(String[] args) {
        statesAreAsTold();
        newHasNoWires();
        newHasNoSorts();
        newIsApartFromOthers();
        lastCallOfShares();
        lastCallOfNet();
        lastCallOfShop();
        lastCallIsRefused();
        Sentence.end(1, 20);
    }

    private static void statesAreAsTold() {
        for (State state : State.values()) {
            Due.due(state + ": count(0)", state.make().count(0), state.wires());
            Due.due(state + ": count(1)", state.make().count(1), state.sorts());
        }
        Due.due("SOME: trace()", State.SOME.make().trace(), 11 + 111);
        Due.due("FULL: trace()", State.FULL.make().trace(), 1 + 111);
        Due.due("SOME: count(2)", State.SOME.make().count(2), 5);
        Due.due("FULL: count(2)", State.FULL.make().count(2), 6);
    }

    private static void newHasNoWires() {
        Sentence.of(1, "No WIRES, no SORTS.");
        OhmNets x = new OhmNets();
        Due.due("count(0)", x.count(0), 0);
        Due.due("count(2)", x.count(2), 0);
        Due.due("trees()", x.trees(), 1);
        Due.due("trace()", x.trace(), 0);
        Due.due("cut()", x.cut(), OhmNets.STATE);
        for (int w = 0; w < 13; w++) {
            Due.due("about(" + w + ", 0)", x.about(w, 0), OhmNets.BAD);
            Due.due("ohms(" + w + ", 0)", x.ohms(w, 0), OhmNets.BAD);
            Due.due("through(" + w + ", 0, 1, 0)", x.through(w, 0, 1, 0), Long.MIN_VALUE);
        }
        for (int a = 0; a < 6; a++) {
            for (int b = 0; b < 6; b++) {
                Due.due("between(" + a + ", " + b + ", 0)", x.between(a, b, 0), a == b ? 0 : OhmNets.STATE);
                Due.due("falls(" + a + ", " + b + ")", x.falls(a, b), a == b ? OhmNets.BAD : OhmNets.STATE);
            }
        }
        Due.due("the first WIRE", x.wire(0, 0, 1, 0, 0), 0);
    }

    private static void newHasNoSorts() {
        Sentence.of(1, "No WIRES, no SORTS.");
        OhmNets x = new OhmNets();
        Due.due("count(1)", x.count(1), 0);
        Due.due("nearest(1, 1)", x.nearest(1, 1), OhmNets.STATE);
        for (int choice = 0; choice < 300; choice++) {
            Due.due("choice(" + choice + ", 0)", x.choice(choice, 0), OhmNets.BAD);
        }
        Due.due("the first SORT", x.sort(1, 1), 0);
    }

    private static void newIsApartFromOthers() {
        Sentence.of(1, "No WIRES, no SORTS.");
        OhmNets full = State.FULL.make();
        OhmNets x = new OhmNets();
        Due.due("new beside a full one: count(0)", x.count(0), 0);
        Due.due("new beside a full one: count(1)", x.count(1), 0);
        Due.due("new beside a full one: trace()", x.trace(), 0);
        Due.due("new beside a full one: cut()", x.cut(), OhmNets.STATE);
        Due.due("the full one: count(0)", full.count(0), 12);
        Due.due("the full one: count(1)", full.count(1), 6);
        Due.due("the full one: trace()", full.trace(), 112);
    }

    /** What the 512th call of an object that is full of WIRES and SORTS answers. */
    private static void last(int promise, String name, long want, Refused.Call call) {
        Sentence.of(promise, LAST_CALL);
        OhmNets x = new OhmNets();
        int called = 0;
        for (int w = 0; w < 12; w++) {
            x.wire(w % 3, w % 6, (w + 1) % 6, 4, 2);
            called++;
        }
        for (int i = 0; i < 6; i++) {
            x.sort(10 + i, 1 + i);
            called++;
        }
        for (; called < CALLS - 1; called++) {
            x.ohms(11, 0);
        }
        Due.due("the 512th call, " + name, call.on(x), want);
    }

    private static void lastCallOfShares() {
        last(2, "many(9)", 869, x -> x.many(9));
        last(3, "share(9, 868, 0)", 9, x -> x.share(9, 868, 0));
        last(4, "rank(9, 1, 9)", 0, x -> x.rank(9, 1, 9));
        last(5, "fewest(55, 34)", 9, x -> x.fewest(55, 34));
        last(6, "made(9, 868, 3)", 336, x -> x.made(9, 868, 3));
        last(7, "turned(9, 0)", 868, x -> x.turned(9, 0));
    }

    private static void lastCallOfNet() {
        last(8, "wire(0, 0, 1, 0, 0)", OhmNets.FULL, x -> x.wire(0, 0, 1, 0, 0));
        last(9, "cut()", 11, x -> x.cut());
        last(10, "ohms(10, 0)", 4, x -> x.ohms(10, 0));
        last(11, "about(11, 1)", 5, x -> x.about(11, 1));
        // The ring is twice each of ONE 1, LONG 4 and THICK 4 by 2, pairs of the same: 1/2 + 2 + 1, and again.
        last(12, "between(0, 3, 0)", 7, x -> x.between(0, 3, 0));
        last(13, "through(0, 0, 3, 1)", 4, x -> x.through(0, 0, 3, 1));
        last(14, "trees()", 6 * 32, x -> x.trees());
        last(15, "falls(0, 3)", 1, x -> x.falls(0, 3));
    }

    private static void lastCallOfShop() {
        last(16, "sort(1, 1)", OhmNets.FULL, x -> x.sort(1, 1));
        last(17, "nearest(1, 1000)", 200, x -> x.nearest(1, 1000));
        last(18, "choice(155, 0)", 30, x -> x.choice(155, 0));
        last(19, "count(2)", 6, x -> x.count(2));
        last(20, "trace()", (CALLS - 1 - 18) * 111L, x -> x.trace());
        last(1, "through of a WIRE that is BAD", Long.MIN_VALUE, x -> x.through(12, 0, 1, 0));
    }

    private static void lastCallIsRefused() {
        OhmNets x = new OhmNets();
        Sentence.of(9, LAST_CALL);
        for (int call = 1; call <= CALLS; call++) {
            Due.due("cut(), call " + call, x.cut(), OhmNets.STATE);
        }
        OhmNets y = new OhmNets();
        Sentence.of(8, LAST_CALL);
        for (int call = 1; call < CALLS; call += 2) {
            Due.due("wire, call " + call, y.wire(0, 0, 1, 0, 0), 0);
            Due.due("cut(), call " + (call + 1), y.cut(), 0);
        }
    }
}
