/** Promises 8 to 15: a test for each sentence that names a least, a largest, an empty, a full or a refused thing. */
public final class EdgeNetTest {
    // Below, above, at the ends of int, and what a shift or a byte would wrap around to 0 .. 5.
    private static final int[] NO_KNOT = {-1, 6, 7, 32, 33, 256, 65536, -32, Integer.MIN_VALUE, Integer.MIN_VALUE + 1,
        Integer.MAX_VALUE};
    private static final int[] NO_FACTOR = {0, -1, -4, 5, 256 + 2, 65536 + 2, Integer.MIN_VALUE, Integer.MAX_VALUE};
    private static final int[] NO_KIND = {-1, 3, 256, 65536, Integer.MIN_VALUE, Integer.MAX_VALUE};
    private static final int[] NO_BIT = {-1, 2, 256, 65536, Integer.MIN_VALUE, Integer.MAX_VALUE};

    public static void main(String[] args) {
        wireNumbers();
        wireFull();
        wireKnots();
        wireKnotsRefused();
        wireSameKnotsRefused();
        wireKindRefused();
        wireFactors();
        wireFactorsRefused();
        wireFactorsNotLookedAt();
        wireBadAheadOfFull();
        cutTheLatest();
        cutToTheLast();
        cutRefused();
        ohmsLeastAndLargest();
        ohmsLeastForm();
        ohmsRefused();
        aboutFirstAndLast();
        aboutRefused();
        betweenItself();
        betweenLeastAndLargest();
        betweenLeastForm();
        betweenLargestNumbers();
        betweenManyTrees();
        betweenRefused();
        betweenApart();
        betweenBadAheadOfState();
        throughBackwards();
        throughNothing();
        throughAll();
        throughLargestNumbers();
        throughRefused();
        throughSameKnots();
        throughApart();
        treesWithoutWires();
        treesApart();
        treesLeastAndLargest();
        fallsToOneWire();
        fallsDeadEnds();
        fallsSideBySide();
        fallsInARow();
        fallsRings();
        fallsWithoutOthers();
        fallsNot();
        fallsInWhicheverOrder();
        fallsAskedAgain();
        fallsAfterACut();
        fallsRefused();
        fallsApart();
        fallsBadAheadOfState();
        Sentence.end(8, 15);
    }

    /** A net of WIRES of the KIND ONE, told as pairs of KNOTS. */
    private static OhmNets ones(int... knots) {
        OhmNets x = new OhmNets();
        addOnes(x, knots);
        return x;
    }

    private static void addOnes(OhmNets x, int... knots) {
        for (int i = 0; i + 1 < knots.length; i += 2) {
            x.wire(0, knots[i], knots[i + 1], 0, 0);
        }
    }

    private static void wireNumbers() {
        Sentence.of(8, "WIRES (12 at most), numbered from 0 on, each between two KNOTS.");
        OhmNets x = new OhmNets();
        for (int w = 0; w < 12; w++) {
            Due.due("WIRE " + w, x.wire(w % 3, w % 6, (w + 1) % 6, 1, 1), w);
            Due.due("count(0)", x.count(0), w + 1);
        }
    }

    private static void wireFull() {
        Sentence.of(8, "A WIRE between two KNOTS (not the same): its number. BAD; FULL.");
        for (int kind = 0; kind <= 2; kind++) {
            int asked = kind;
            Refused.in(State.FULL, "a thirteenth of KIND " + kind, OhmNets.FULL, x -> x.wire(asked, 0, 5, 4, 4));
        }
        OhmNets x = State.FULL.make();
        for (int again = 0; again < 3; again++) {
            Due.due("a thirteenth", x.wire(0, 0, 1, 0, 0), OhmNets.FULL);
            Due.due("cut()", x.cut(), 11);
            Due.due("a twelfth again", x.wire(0, 4, 2, 0, 0), 11);
        }
    }

    private static void wireKnots() {
        Sentence.of(8, "THE NET has KNOTS 0 .. 5 and WIRES (12 at most)");
        for (int a = 0; a <= 5; a++) {
            for (int b = 0; b <= 5; b++) {
                if (a != b) {
                    OhmNets x = new OhmNets();
                    Due.due("wire(0, " + a + ", " + b + ", 1, 1)", x.wire(0, a, b, 1, 1), 0);
                    Due.due("about(0, 1)", x.about(0, 1), a);
                    Due.due("about(0, 2)", x.about(0, 2), b);
                }
            }
        }
    }

    private static void wireKnotsRefused() {
        Sentence.of(8, "THE NET has KNOTS 0 .. 5 and WIRES (12 at most)");
        for (int knot : NO_KNOT) {
            for (int kind = 0; kind <= 2; kind++) {
                int asked = kind;
                Refused.inEach("wire(" + kind + ", " + knot + ", 1, 1, 1)", OhmNets.BAD, x -> x.wire(asked, knot, 1, 1, 1));
                Refused.inEach("wire(" + kind + ", 1, " + knot + ", 1, 1)", OhmNets.BAD, x -> x.wire(asked, 1, knot, 1, 1));
            }
        }
    }

    private static void wireSameKnotsRefused() {
        Sentence.of(8, "A WIRE between two KNOTS (not the same): its number.");
        for (int knot = 0; knot <= 5; knot++) {
            int same = knot;
            for (int kind = 0; kind <= 2; kind++) {
                int asked = kind;
                Refused.inEach("wire(" + kind + ", " + knot + ", " + knot + ", 1, 1)", OhmNets.BAD,
                    x -> x.wire(asked, same, same, 1, 1));
            }
        }
    }

    private static void wireKindRefused() {
        Sentence.of(8, "WIRES are of KINDS over one another: 0 ONE, 1 LONG, 2 THICK");
        for (int kind : NO_KIND) {
            Refused.inEach("wire(" + kind + ", 0, 1, 1, 1)", OhmNets.BAD, x -> x.wire(kind, 0, 1, 1, 1));
        }
    }

    private static void wireFactors() {
        Sentence.of(8, "OHMS of a WIRE with k, m (1 .. 4; those of other KINDS are not looked at)");
        for (int k : new int[] {1, 4}) {
            Due.due("wire(1, 0, 1, " + k + ", 1)", new OhmNets().wire(1, 0, 1, k, 1), 0);
            for (int m : new int[] {1, 4}) {
                Due.due("wire(2, 0, 1, " + k + ", " + m + ")", new OhmNets().wire(2, 0, 1, k, m), 0);
            }
        }
    }

    /** A THICK one has what LONG, which stands over it, has by m: so it looks at k, too. */
    private static void wireFactorsRefused() {
        Sentence.of(8, "OHMS of a WIRE with k, m (1 .. 4; those of other KINDS are not looked at)");
        for (int factor : NO_FACTOR) {
            Refused.inEach("wire(1, 0, 1, " + factor + ", 1)", OhmNets.BAD, x -> x.wire(1, 0, 1, factor, 1));
            Refused.inEach("wire(2, 0, 1, " + factor + ", 1)", OhmNets.BAD, x -> x.wire(2, 0, 1, factor, 1));
            Refused.inEach("wire(2, 0, 1, 1, " + factor + ")", OhmNets.BAD, x -> x.wire(2, 0, 1, 1, factor));
        }
    }

    private static void wireFactorsNotLookedAt() {
        Sentence.of(8, "(1 .. 4; those of other KINDS are not looked at)");
        for (int factor : NO_FACTOR) {
            OhmNets x = new OhmNets();
            Due.due("wire(0, 0, 1, " + factor + ", 1)", x.wire(0, 0, 1, factor, 1), 0);
            Due.due("wire(0, 0, 1, 1, " + factor + ")", x.wire(0, 0, 1, 1, factor), 1);
            Due.due("wire(1, 0, 1, 4, " + factor + ")", x.wire(1, 0, 1, 4, factor), 2);
            int[] due = {1, 1, 4};
            for (int w = 0; w < 3; w++) {
                Due.due("with " + factor + ", ohms(" + w + ", 0)", x.ohms(w, 0), due[w]);
                Due.due("with " + factor + ", ohms(" + w + ", 1)", x.ohms(w, 1), 1);
            }
        }
    }

    private static void wireBadAheadOfFull() {
        Sentence.of(8, Sentence.REFUSED_FIRST);
        Refused.in(State.FULL, "KIND 3, of a full net", OhmNets.BAD, x -> x.wire(3, 0, 1, 1, 1));
        Refused.in(State.FULL, "KNOT 6 first, of a full net", OhmNets.BAD, x -> x.wire(0, 6, 1, 1, 1));
        Refused.in(State.FULL, "KNOT 6 second, of a full net", OhmNets.BAD, x -> x.wire(0, 1, 6, 1, 1));
        Refused.in(State.FULL, "the same KNOTS, of a full net", OhmNets.BAD, x -> x.wire(0, 5, 5, 1, 1));
        Refused.in(State.FULL, "k 0, of a full net", OhmNets.BAD, x -> x.wire(1, 0, 1, 0, 1));
        Refused.in(State.FULL, "m 5, of a full net", OhmNets.BAD, x -> x.wire(2, 0, 1, 1, 5));
    }

    private static void cutTheLatest() {
        Sentence.of(9, "The latest WIRE is gone: how many are left.");
        OhmNets x = ones(0, 1, 1, 2, 2, 3);
        Due.due("cut()", x.cut(), 2);
        Due.due("the first is there", x.about(0, 1), 0);
        Due.due("the second is there", x.about(1, 1), 1);
        Due.due("the third is gone", x.about(2, 1), OhmNets.BAD);
        Due.due("and its KNOT hangs no more", x.between(2, 3, 0), OhmNets.STATE);
        Due.due("and has no WIRES", x.count(2), 3);
        Due.due("and is no TREE's", x.trees(), 1);
    }

    private static void cutToTheLast() {
        Sentence.of(9, "The latest WIRE is gone: how many are left.");
        OhmNets x = State.FULL.make();
        for (int left = 11; left >= 0; left--) {
            Due.due("cut()", x.cut(), left);
            Due.due("count(0)", x.count(0), left);
        }
        Due.due("cut() of none", x.cut(), OhmNets.STATE);
        Due.due("count(0)", x.count(0), 0);
        Due.due("count(2)", x.count(2), 0);
        Due.due("the next WIRE", x.wire(1, 2, 3, 4, 0), 0);
        Due.due("cut()", x.cut(), 0);
    }

    private static void cutRefused() {
        Sentence.of(9, "STATE: there is none.");
        Refused.in(State.NEW, "cut()", OhmNets.STATE, x -> x.cut());
        Refused.in(State.NEW, "cut() three times", OhmNets.STATE, x -> x.cut() + x.cut() - x.cut());
    }

    private static void checkOhms(int kind, int k, int m, int upper, int lower) {
        OhmNets x = new OhmNets();
        x.wire(kind, 5, 0, k, m);
        Due.due("KIND " + kind + " with " + k + ", " + m + ": ohms(0, 0)", x.ohms(0, 0), upper);
        Due.due("KIND " + kind + " with " + k + ", " + m + ": ohms(0, 1)", x.ohms(0, 1), lower);
    }

    private static void ohmsLeastAndLargest() {
        Sentence.of(10, "ONE 1 (1). LONG up times k (10). THICK up by m (100).");
        checkOhms(0, 4, 4, 1, 1);
        checkOhms(1, 1, 4, 1, 1);
        checkOhms(1, 4, 4, 4, 1);
        checkOhms(2, 1, 1, 1, 1);
        checkOhms(2, 1, 4, 1, 4);
        checkOhms(2, 4, 1, 4, 1);
        checkOhms(2, 3, 4, 3, 4);
        checkOhms(2, 4, 3, 4, 3);
    }

    private static void ohmsLeastForm() {
        Sentence.of(10, "SHARES are fractions above 0 in their least form (UPPER, LOWER).");
        checkOhms(2, 2, 2, 1, 1);
        checkOhms(2, 3, 3, 1, 1);
        checkOhms(2, 4, 4, 1, 1);
        checkOhms(2, 2, 4, 1, 2);
        checkOhms(2, 4, 2, 2, 1);
    }

    private static int[] noWire(State state) {
        return new int[] {-1, state.wires(), 12, 13, 256, 65536, Integer.MIN_VALUE, Integer.MAX_VALUE};
    }

    private static void ohmsRefused() {
        Sentence.of(10, "OHMS of a WIRE: UPPER (0), LOWER (1). BAD.");
        for (State state : State.values()) {
            for (int wire : noWire(state)) {
                Refused.in(state, "ohms(" + wire + ", 0)", OhmNets.BAD, x -> x.ohms(wire, 0));
                Refused.in(state, "ohms(" + wire + ", 1)", OhmNets.BAD, x -> x.ohms(wire, 1));
            }
        }
        for (int part : NO_BIT) {
            for (int wire = 0; wire < 3; wire++) {
                int asked = wire;
                Refused.inEach("ohms(" + wire + ", " + part + ")", OhmNets.BAD, x -> x.ohms(asked, part));
            }
        }
    }

    private static void aboutFirstAndLast() {
        Sentence.of(11, "Of a WIRE: 0 KIND, 1 and 2 its KNOTS.");
        OhmNets x = State.FULL.make();
        int[] first = {0, 0, 1};
        int[] last = {2, 5, 1};
        for (int what = 0; what <= 2; what++) {
            Due.due("about(0, " + what + ")", x.about(0, what), first[what]);
            Due.due("about(11, " + what + ")", x.about(11, what), last[what]);
        }
    }

    private static void aboutRefused() {
        Sentence.of(11, "Of a WIRE: 0 KIND, 1 and 2 its KNOTS. BAD.");
        for (State state : State.values()) {
            for (int wire : noWire(state)) {
                for (int what = 0; what <= 2; what++) {
                    int asked = what;
                    Refused.in(state, "about(" + wire + ", " + what + ")", OhmNets.BAD, x -> x.about(wire, asked));
                }
            }
        }
        for (int what : new int[] {-1, 3, 256, 65536, Integer.MIN_VALUE, Integer.MAX_VALUE}) {
            Refused.inEach("about(0, " + what + ")", OhmNets.BAD, x -> x.about(0, what));
        }
    }

    private static void checkBetween(OhmNets x, int a, int b, long upper, long lower) {
        Due.due("between(" + a + ", " + b + ", 0)", x.between(a, b, 0), upper);
        Due.due("between(" + a + ", " + b + ", 1)", x.between(a, b, 1), lower);
        Due.due("between(" + b + ", " + a + ", 0)", x.between(b, a, 0), upper);
        Due.due("between(" + b + ", " + a + ", 1)", x.between(b, a, 1), lower);
    }

    private static void betweenItself() {
        Sentence.of(12, "0 and 1 of a KNOT with itself.");
        for (State state : State.values()) {
            for (int knot = 0; knot <= 5; knot++) {
                checkBetween(state.make(), knot, knot, 0, 1);
            }
        }
    }

    private static void betweenLeastAndLargest() {
        Sentence.of(12, "BETWEEN two KNOTS that hang together THE NET has a SHARE, as wires have it");
        OhmNets thick = new OhmNets();
        for (int w = 0; w < 12; w++) {
            thick.wire(2, 5 * (w % 2), 5 - 5 * (w % 2), 1, 4);
        }
        checkBetween(thick, 0, 5, 1, 48);
        OhmNets row = new OhmNets();
        for (int w = 0; w < 5; w++) {
            row.wire(1, w, w + 1, 4, 0);
        }
        checkBetween(row, 0, 5, 20, 1);
        checkBetween(ones(4, 3), 3, 4, 1, 1);
    }

    private static void betweenLeastForm() {
        Sentence.of(12, "SHARES are fractions above 0 in their least form (UPPER, LOWER).");
        checkBetween(ones(0, 1, 1, 0, 1, 2, 2, 1), 0, 2, 1, 1);
        checkBetween(ones(0, 1, 1, 2, 2, 3, 3, 0), 0, 2, 1, 1);
        checkBetween(ones(0, 1, 1, 2, 2, 3, 3, 0), 0, 1, 3, 4);
    }

    /** The largest numbers that a search over nets of twelve WIRES has found; solved by another program. */
    private static OhmNets largestNumbers() {
        int[][] wires = {{5, 1, 4, 3}, {3, 0, 4, 3}, {2, 4, 3, 4}, {4, 5, 4, 3}, {3, 2, 1, 4}, {1, 0, 1, 4}, {2, 5, 4, 3},
            {5, 3, 3, 4}, {4, 3, 3, 4}, {5, 0, 4, 3}, {4, 1, 3, 4}, {2, 0, 3, 4}};
        OhmNets x = new OhmNets();
        for (int[] wire : wires) {
            x.wire(2, wire[0], wire[1], wire[2], wire[3]);
        }
        return x;
    }

    private static void betweenLargestNumbers() {
        Sentence.of(12, "BETWEEN two KNOTS that hang together THE NET has a SHARE, as wires have it");
        OhmNets x = largestNumbers();
        checkBetween(x, 0, 1, 108898776, 548317513);
        checkBetween(x, 0, 2, 174523800, 548317513);
        checkBetween(x, 0, 3, 184877388, 548317513);
        checkBetween(x, 0, 4, 212022168, 548317513);
        checkBetween(x, 0, 5, 201766476, 548317513);
        checkBetween(x, 2, 5, 1786068, 5323471);
        checkBetween(x, 4, 5, 209797836, 548317513);
    }

    /** The answers are small, but the 384 TREES of WIRES of 1 / 4 behind them make numbers that no int holds. */
    private static void betweenManyTrees() {
        Sentence.of(12, "BETWEEN two KNOTS that hang together THE NET has a SHARE, as wires have it");
        OhmNets x = octahedron(1, 4);
        OhmNets y = octahedron(4, 1);
        for (int a = 0; a <= 5; a++) {
            for (int b = a + 1; b <= 5; b++) {
                boolean across = a + b == 5;
                checkBetween(x, a, b, across ? 1 : 5, across ? 8 : 48);
                checkBetween(y, a, b, across ? 2 : 5, across ? 1 : 3);
            }
        }
    }

    /** Twelve WIRES of the KIND THICK: each KNOT with all others but the one across. */
    private static OhmNets octahedron(int k, int m) {
        OhmNets x = new OhmNets();
        for (int a = 0; a <= 5; a++) {
            for (int b = a + 1; b <= 5; b++) {
                if (a + b != 5) {
                    x.wire(2, a, b, k, m);
                }
            }
        }
        return x;
    }

    private static void betweenRefused() {
        Sentence.of(12, "-1: BAD");
        for (int knot : NO_KNOT) {
            for (int part = 0; part <= 1; part++) {
                int asked = part;
                Refused.inEach("between(" + knot + ", 1, " + part + ")", -1, x -> x.between(knot, 1, asked));
                Refused.inEach("between(1, " + knot + ", " + part + ")", -1, x -> x.between(1, knot, asked));
                Refused.inEach("between(" + knot + ", " + knot + ", " + part + ")", -1, x -> x.between(knot, knot, asked));
            }
        }
        for (int part : NO_BIT) {
            Refused.inEach("between(0, 1, " + part + ")", -1, x -> x.between(0, 1, part));
            Refused.inEach("between(2, 2, " + part + ")", -1, x -> x.between(2, 2, part));
        }
    }

    private static void betweenApart() {
        Sentence.of(12, "-2: STATE: they do not hang together.");
        for (int part = 0; part <= 1; part++) {
            int asked = part;
            Refused.in(State.NEW, "between(0, 1, " + part + ")", -2, x -> x.between(0, 1, asked));
            Refused.in(State.SOME, "two nets: between(0, 3, " + part + ")", -2, x -> x.between(0, 3, asked));
            Refused.in(State.SOME, "two nets: between(4, 2, " + part + ")", -2, x -> x.between(4, 2, asked));
            Refused.in(State.SOME, "without WIRES: between(5, 0, " + part + ")", -2, x -> x.between(5, 0, asked));
            Refused.in(State.SOME, "without WIRES: between(4, 5, " + part + ")", -2, x -> x.between(4, 5, asked));
        }
    }

    private static void betweenBadAheadOfState() {
        Sentence.of(12, Sentence.REFUSED_FIRST);
        for (int part : NO_BIT) {
            Refused.in(State.SOME, "apart: between(0, 5, " + part + ")", -1, x -> x.between(0, 5, part));
            Refused.in(State.NEW, "apart: between(0, 5, " + part + ")", -1, x -> x.between(0, 5, part));
        }
    }

    private static void checkThrough(OhmNets x, int wire, int a, int b, long upper, long lower) {
        String call = "through(" + wire + ", " + a + ", " + b + ", ";
        Due.due(call + "0)", x.through(wire, a, b, 0), upper);
        Due.due(call + "1)", x.through(wire, a, b, 1), lower);
        String back = "through(" + wire + ", " + b + ", " + a + ", ";
        Due.due(back + "0)", x.through(wire, b, a, 0), -upper);
        Due.due(back + "1)", x.through(wire, b, a, 1), lower);
    }

    private static void throughBackwards() {
        Sentence.of(13, "(below 0: from its second KNOT to its first; 0 in WIRES that do not hang together with them)");
        OhmNets x = ones(0, 1, 1, 0, 2, 0, 1, 2);
        checkThrough(x, 0, 0, 1, 2, 5);
        checkThrough(x, 1, 0, 1, -2, 5);
        checkThrough(x, 2, 0, 1, -1, 5);
        checkThrough(x, 3, 0, 1, -1, 5);
    }

    private static void throughNothing() {
        Sentence.of(13, "0 in WIRES that do not hang together with them");
        OhmNets x = State.SOME.make();
        checkThrough(x, 3, 0, 2, 0, 1);
        for (int wire = 0; wire <= 2; wire++) {
            checkThrough(x, wire, 4, 3, 0, 1);
        }
        // As much comes as goes: nothing in a dead end, nor over a bridge in balance.
        checkThrough(ones(0, 1, 1, 2), 1, 0, 1, 0, 1);
        checkThrough(ones(0, 1, 0, 2, 1, 2, 1, 3, 2, 3), 2, 0, 3, 0, 1);
    }

    private static void throughAll() {
        Sentence.of(13, "THROUGH a WIRE, with 1 from KNOT a to KNOT b: UPPER (0), LOWER (1).");
        OhmNets x = ones(0, 5, 4, 5);
        checkThrough(x, 0, 0, 5, 1, 1);
        checkThrough(x, 0, 0, 4, 1, 1);
        checkThrough(x, 1, 0, 4, -1, 1);
        OhmNets thick = new OhmNets();
        for (int w = 0; w < 12; w++) {
            thick.wire(2, 0, 5, 1, 4);
        }
        checkThrough(thick, 0, 0, 5, 1, 12);
        checkThrough(thick, 11, 0, 5, 1, 12);
    }

    private static void throughLargestNumbers() {
        Sentence.of(13, "THROUGH a WIRE is then what goes through it");
        OhmNets x = largestNumbers();
        checkThrough(x, 0, 0, 1, 46251225, 548317513);
        checkThrough(x, 1, 0, 3, -138658041, 548317513);
        checkThrough(x, 2, 0, 4, 134388496, 548317513);
        checkThrough(x, 0, 1, 5, -162153225, 548317513);
        checkThrough(x, 2, 2, 5, 894832, 5323471);
        checkThrough(x, 1, 3, 4, 51326361, 548317513);
        // WIRES 0 and 3 of an octahedron go from KNOT 0 to 1 and to 4, which are across from each other.
        checkThrough(octahedron(1, 4), 0, 0, 1, 5, 12);
        checkThrough(octahedron(1, 4), 3, 0, 1, 1, 6);
    }

    private static void throughRefused() {
        Sentence.of(13, "Long.MIN_VALUE: BAD (a is b, too), or they do not hang together.");
        for (State state : State.values()) {
            for (int wire : noWire(state)) {
                Refused.in(state, "through(" + wire + ", 0, 1, 0)", Long.MIN_VALUE, x -> x.through(wire, 0, 1, 0));
                Refused.in(state, "through(" + wire + ", 0, 1, 1)", Long.MIN_VALUE, x -> x.through(wire, 0, 1, 1));
            }
        }
        for (int knot : NO_KNOT) {
            Refused.inEach("through(0, " + knot + ", 1, 0)", Long.MIN_VALUE, x -> x.through(0, knot, 1, 0));
            Refused.inEach("through(0, 1, " + knot + ", 0)", Long.MIN_VALUE, x -> x.through(0, 1, knot, 0));
            Refused.inEach("through(0, " + knot + ", " + knot + ", 1)", Long.MIN_VALUE, x -> x.through(0, knot, knot, 1));
        }
        for (int part : NO_BIT) {
            Refused.inEach("through(0, 0, 1, " + part + ")", Long.MIN_VALUE, x -> x.through(0, 0, 1, part));
        }
    }

    private static void throughSameKnots() {
        Sentence.of(13, "BAD (a is b, too)");
        for (int knot = 0; knot <= 5; knot++) {
            int same = knot;
            for (int part = 0; part <= 1; part++) {
                int asked = part;
                Refused.inEach("through(0, " + knot + ", " + knot + ", " + part + ")", Long.MIN_VALUE,
                    x -> x.through(0, same, same, asked));
            }
        }
    }

    private static void throughApart() {
        Sentence.of(13, "or they do not hang together.");
        for (int part = 0; part <= 1; part++) {
            int asked = part;
            Refused.in(State.SOME, "two nets: through(0, 0, 3, " + part + ")", Long.MIN_VALUE, x -> x.through(0, 0, 3, asked));
            Refused.in(State.SOME, "two nets: through(3, 4, 1, " + part + ")", Long.MIN_VALUE, x -> x.through(3, 4, 1, asked));
            Refused.in(State.SOME, "without WIRES: through(0, 5, 0, " + part + ")", Long.MIN_VALUE,
                x -> x.through(0, 5, 0, asked));
            Refused.in(State.SOME, "without WIRES: through(3, 4, 5, " + part + ")", Long.MIN_VALUE,
                x -> x.through(3, 4, 5, asked));
        }
    }

    private static void treesWithoutWires() {
        Sentence.of(14, "(1 without WIRES; 0, if these KNOTS do not all hang together)");
        OhmNets x = new OhmNets();
        Due.due("new: trees()", x.trees(), 1);
        x.wire(0, 0, 1, 0, 0);
        x.wire(0, 2, 3, 0, 0);
        Due.due("two nets: trees()", x.trees(), 0);
        x.cut();
        x.cut();
        Due.due("all cut: trees()", x.trees(), 1);
    }

    private static void treesApart() {
        Sentence.of(14, "0, if these KNOTS do not all hang together");
        Due.due("two nets", ones(0, 1, 2, 3).trees(), 0);
        Due.due("three nets", ones(0, 1, 2, 3, 4, 5).trees(), 0);
        Due.due("two rings", ones(0, 2, 2, 4, 4, 0, 1, 3, 3, 5, 5, 1).trees(), 0);
        Due.due("the last KNOT apart is one without WIRES", ones(0, 1, 1, 2, 2, 3, 3, 4).trees(), 1);
        Due.due("the first KNOT apart is one without WIRES", ones(5, 4, 4, 3, 3, 5).trees(), 3);
    }

    private static void treesLeastAndLargest() {
        Sentence.of(14, "TREES of THE NET: choices of WIRES that join all KNOTS that have WIRES, without a ring, counted");
        Due.due("one WIRE", ones(2, 5).trees(), 1);
        Due.due("a row over all KNOTS", ones(0, 1, 1, 2, 2, 3, 3, 4, 4, 5).trees(), 1);
        Due.due("a ring over all KNOTS", ones(0, 1, 1, 2, 2, 3, 3, 4, 4, 5, 5, 0).trees(), 6);
        OhmNets side = new OhmNets();
        for (int pair = 0; pair < 6; pair++) {
            side.wire(2, 0, 5, 1, 4);
            side.wire(1, 5, 0, 4, 1);
        }
        Due.due("twelve side by side", side.trees(), 12);
        Due.due("an octahedron", octahedron(1, 4).trees(), 384);
        Due.due("an octahedron of other OHMS", octahedron(4, 3).trees(), 384);
    }

    private static void fallsToOneWire() {
        Sentence.of(15, "if this, done as long as it can be, leaves one WIRE, between these");
        Due.due("one WIRE", ones(0, 5).falls(0, 5), 1);
        Due.due("one WIRE, from its second KNOT", ones(0, 5).falls(5, 0), 1);
        Due.due("FULL", State.FULL.make().falls(0, 3), 0);
    }

    private static void fallsDeadEnds() {
        Sentence.of(15, "a WIRE at a KNOT of just that one WIRE (not one of the two) is gone");
        Due.due("dead ends at both", ones(0, 1, 0, 2, 1, 3).falls(0, 1), 1);
        Due.due("a dead end of four", ones(0, 1, 1, 2, 2, 3, 3, 4, 4, 5).falls(0, 1), 1);
        Due.due("the two are at ends themselves", ones(0, 1, 1, 2, 2, 3, 3, 4, 4, 5).falls(0, 5), 1);
        Due.due("a fork", ones(0, 1, 1, 2, 2, 3, 2, 4).falls(0, 1), 1);
    }

    private static void fallsSideBySide() {
        Sentence.of(15, "two WIRES between the same two KNOTS become one");
        Due.due("two", ones(0, 1, 1, 0).falls(0, 1), 1);
        OhmNets x = new OhmNets();
        for (int w = 0; w < 12; w++) {
            x.wire(w % 3, 5 * (w % 2), 5 - 5 * (w % 2), 2, 3);
        }
        Due.due("twelve", x.falls(0, 5), 1);
        Due.due("doubled row", ones(0, 1, 0, 1, 1, 2, 1, 2).falls(0, 2), 1);
    }

    private static void fallsInARow() {
        Sentence.of(15, "two WIRES at a KNOT of just these (not one of the two) become one between their other KNOTS");
        Due.due("two", ones(0, 1, 1, 2).falls(0, 2), 1);
        Due.due("a ring", ones(0, 1, 1, 2, 2, 3, 3, 4, 4, 5, 5, 0).falls(0, 3), 1);
        Due.due("a bridge, from side to side", ones(0, 1, 0, 2, 1, 2, 1, 3, 2, 3).falls(1, 2), 1);
        Due.due("one of the two stays", ones(0, 1, 0, 2, 1, 2, 1, 3, 2, 3).falls(0, 1), 1);
    }

    private static void fallsRings() {
        Sentence.of(15, "WIRES that go from a KNOT to itself are gone");
        Due.due("a ring at one of the two", ones(0, 1, 1, 2, 2, 3, 3, 1).falls(0, 1), 1);
        Due.due("a ring of two at one of the two", ones(0, 1, 1, 2, 2, 1).falls(0, 1), 1);
        Due.due("a ring at a KNOT on the way", ones(0, 1, 1, 2, 1, 3, 3, 4, 4, 1).falls(0, 2), 1);
        Due.due("rings at both", ones(0, 1, 1, 2, 2, 3, 3, 1, 0, 4, 4, 5, 5, 0).falls(0, 1), 1);
    }

    private static void fallsWithoutOthers() {
        Sentence.of(15, "WIRES that do not hang together with the two KNOTS are gone.");
        Due.due("a full net of four beside", ones(0, 1, 0, 2, 0, 3, 1, 2, 1, 3, 2, 3, 4, 5).falls(4, 5), 1);
        Due.due("one WIRE beside", ones(0, 1, 2, 3).falls(2, 3), 1);
    }

    private static void fallsNot() {
        Sentence.of(15, "if this, done as long as it can be, leaves one WIRE, between these");
        Due.due("a bridge, from end to end", ones(0, 1, 0, 2, 1, 2, 1, 3, 2, 3).falls(0, 3), 0);
        Due.due("a bridge with longer ends", ones(0, 1, 1, 2, 1, 3, 2, 3, 2, 4, 3, 4, 4, 5).falls(0, 5), 0);
        OhmNets four = ones(0, 1, 0, 2, 0, 3, 1, 2, 1, 3, 2, 3);
        Due.due("a full net of four", four.falls(0, 1), 0);
        addOnes(four, 3, 4);
        Due.due("one that hangs at the second", four.falls(4, 3), 0);
        Due.due("one that hangs at the first", four.falls(3, 4), 0);
        addOnes(four, 4, 5);
        Due.due("one that hangs at a KNOT behind", four.falls(5, 4), 0);
        Due.due("one that hangs at a KNOT on the way", ones(0, 1, 1, 2, 1, 3, 1, 4, 2, 3, 2, 4, 3, 4, 1, 5).falls(0, 5), 0);
    }

    private static void fallsInWhicheverOrder() {
        Sentence.of(15, "(In whichever order it is done it is the same.)");
        // In a fan just one KNOT at a time can be done away with.
        int[] fan = {0, 5, 0, 1, 1, 5, 1, 2, 2, 5, 2, 3, 3, 5, 3, 4, 4, 5};
        int[] bridgeInFan = {0, 1, 0, 2, 1, 2, 1, 3, 2, 3, 3, 4, 4, 5, 3, 5};
        int[] row = {0, 1, 1, 2, 2, 3, 3, 4, 4, 5};
        int[] twoRings = {0, 1, 1, 2, 2, 0, 3, 4, 4, 5, 5, 3};
        int[] order = {0, 1, 2, 3, 4, 5};
        renumber(order, 0, fan, 0, 5, 1);
        renumber(order, 0, fan, 4, 5, 1);
        renumber(order, 0, bridgeInFan, 0, 5, 0);
        renumber(order, 0, bridgeInFan, 1, 2, 1);
        renumber(order, 0, row, 0, 5, 1);
        renumber(order, 0, row, 2, 3, 1);
        renumber(order, 0, twoRings, 0, 1, 1);
        renumber(order, 0, twoRings, 0, 3, OhmNets.STATE);
    }

    /** Tries a net with its KNOTS numbered in every order; those ahead of "fixed" have their numbers already. */
    private static void renumber(int[] order, int fixed, int[] knots, int a, int b, int want) {
        if (fixed == order.length) {
            OhmNets x = new OhmNets();
            for (int i = 0; i + 1 < knots.length; i += 2) {
                x.wire(0, order[knots[i]], order[knots[i + 1]], 0, 0);
            }
            Due.due("falls(" + order[a] + ", " + order[b] + ")", x.falls(order[a], order[b]), want);
            return;
        }
        for (int i = fixed; i < order.length; i++) {
            swap(order, fixed, i);
            renumber(order, fixed + 1, knots, a, b, want);
            swap(order, fixed, i);
        }
    }

    private static void swap(int[] order, int i, int k) {
        int kept = order[i];
        order[i] = order[k];
        order[k] = kept;
    }

    private static void fallsAskedAgain() {
        Sentence.of(15, "Whether THE NET FALLS TOGETHER between two KNOTS.");
        int[] knots = {0, 1, 0, 2, 1, 2, 1, 3, 2, 3, 4, 5};
        OhmNets x = ones(knots);
        for (int ask = 0; ask < 2; ask++) {
            for (int a = 0; a <= 5; a++) {
                for (int b = 0; b <= 5; b++) {
                    Due.due("after others, falls(" + a + ", " + b + ")", x.falls(a, b), ones(knots).falls(a, b));
                }
            }
        }
    }

    private static void fallsAfterACut() {
        Sentence.of(15, "Whether THE NET FALLS TOGETHER between two KNOTS.");
        for (int shift = 0; shift <= 5; shift++) {
            int a = shift;
            int b = (shift + 1) % 6;
            int c = (shift + 2) % 6;
            int d = (shift + 3) % 6;
            checkCuts(a, d, a, b, a, c, b, d, c, d, b, c);
        }
    }

    /** A net that does not fall together, but does without any one of its WIRES. */
    private static void checkCuts(int a, int b, int... knots) {
        for (int latest = 0; latest < knots.length; latest += 2) {
            OhmNets x = new OhmNets();
            for (int i = 2; i <= knots.length; i += 2) {
                addOnes(x, knots[(latest + i) % knots.length], knots[(latest + i + 1) % knots.length]);
            }
            for (int ask = 0; ask < 2; ask++) {
                Due.due("a bridge, falls(" + a + ", " + b + ")", x.falls(a, b), 0);
                x.cut();
                Due.due("when one of its WIRES is cut, falls(" + a + ", " + b + ")", x.falls(a, b), 1);
                addOnes(x, knots[latest], knots[latest + 1]);
            }
        }
    }

    private static void fallsRefused() {
        Sentence.of(15, "BAD: the same ones");
        for (int knot = 0; knot <= 5; knot++) {
            int same = knot;
            Refused.inEach("falls(" + knot + ", " + knot + ")", OhmNets.BAD, x -> x.falls(same, same));
        }
        for (int knot : NO_KNOT) {
            Refused.inEach("falls(" + knot + ", 1)", OhmNets.BAD, x -> x.falls(knot, 1));
            Refused.inEach("falls(1, " + knot + ")", OhmNets.BAD, x -> x.falls(1, knot));
            Refused.inEach("falls(" + knot + ", " + knot + ")", OhmNets.BAD, x -> x.falls(knot, knot));
        }
    }

    private static void fallsApart() {
        Sentence.of(15, "STATE: they do not hang together.");
        Refused.in(State.NEW, "falls(0, 1)", OhmNets.STATE, x -> x.falls(0, 1));
        Refused.in(State.SOME, "two nets: falls(0, 3)", OhmNets.STATE, x -> x.falls(0, 3));
        Refused.in(State.SOME, "two nets: falls(4, 2)", OhmNets.STATE, x -> x.falls(4, 2));
        Refused.in(State.SOME, "without WIRES: falls(5, 0)", OhmNets.STATE, x -> x.falls(5, 0));
        Refused.in(State.SOME, "without WIRES: falls(3, 5)", OhmNets.STATE, x -> x.falls(3, 5));
    }

    private static void fallsBadAheadOfState() {
        Sentence.of(15, Sentence.REFUSED_FIRST);
        Refused.in(State.SOME, "falls(5, 5), without WIRES", OhmNets.BAD, x -> x.falls(5, 5));
        Refused.in(State.SOME, "falls(5, 6)", OhmNets.BAD, x -> x.falls(5, 6));
        Refused.in(State.NEW, "falls(-1, 0)", OhmNets.BAD, x -> x.falls(-1, 0));
    }
}
