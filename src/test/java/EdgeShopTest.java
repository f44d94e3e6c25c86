/** Promises 16 to 20: a test for each sentence that names a least, a largest, an empty, a full or a refused thing. */
public final class EdgeShopTest {
    private static final int[] NO_OHMS = {0, -1, -100, 101, 256 + 5, 65536 + 5, Integer.MIN_VALUE, Integer.MAX_VALUE};
    private static final int[] NO_PRICE = {0, -1, -50, 51, 256 + 5, 65536 + 5, Integer.MIN_VALUE, Integer.MAX_VALUE};
    private static final int[] NOT_TOLD = {0, -1, -1000, 1001, 65536 + 5, Integer.MIN_VALUE, Integer.MIN_VALUE + 1,
        Integer.MAX_VALUE};
    private static final int[] NO_WHAT = {-1, 3, 256, 65536, Integer.MIN_VALUE, Integer.MAX_VALUE};

    public static void main(String[] args) {
        sortNumbers();
        sortLeastAndLargest();
        sortRefused();
        sortFull();
        sortBadAheadOfFull();
        nearestAtTheEdges();
        nearestLeastDifference();
        nearestLeastPrice();
        nearestLeastNumber();
        nearestRefused();
        nearestWithoutSorts();
        nearestBadAheadOfState();
        choiceOfOneSort();
        choiceLeastAndLargest();
        choiceLeastForm();
        choiceNumbers();
        choiceRefused();
        countEmptyAndFull();
        countRefused();
        traceOfEachKind();
        traceOfOthersCalls();
        traceOfRefusedCalls();
        Sentence.end(16, 20);
    }

    /** A shop of SORTS, told as pairs of OHMS and PRICE. */
    private static OhmNets shop(int... ohmsAndPrices) {
        OhmNets x = new OhmNets();
        for (int i = 0; i + 1 < ohmsAndPrices.length; i += 2) {
            x.sort(ohmsAndPrices[i], ohmsAndPrices[i + 1]);
        }
        return x;
    }

    private static void sortNumbers() {
        Sentence.of(16, "A SORT: its number.");
        OhmNets x = new OhmNets();
        for (int i = 0; i < 6; i++) {
            Due.due("SORT " + i, x.sort(7, 7), i);
            Due.due("count(1)", x.count(1), i + 1);
        }
    }

    private static void sortLeastAndLargest() {
        Sentence.of(16, "THE SHOP has up to 6 SORTS: OHMS 1 .. 100, a PRICE 1 .. 50.");
        OhmNets x = new OhmNets();
        Due.due("sort(1, 1)", x.sort(1, 1), 0);
        Due.due("sort(100, 50)", x.sort(100, 50), 1);
        Due.due("sort(1, 50)", x.sort(1, 50), 2);
        Due.due("sort(100, 1)", x.sort(100, 1), 3);
        int[][] due = {{1, 1}, {100, 50}, {1, 50}, {100, 1}};
        for (int i = 0; i < 4; i++) {
            Due.due("choice(" + i + ", 0)", x.choice(i, 0), due[i][0]);
            Due.due("choice(" + i + ", 2)", x.choice(i, 2), due[i][1]);
        }
    }

    private static void sortRefused() {
        Sentence.of(16, "OHMS 1 .. 100, a PRICE 1 .. 50.");
        for (int ohms : NO_OHMS) {
            Refused.inEach("sort(" + ohms + ", 1)", OhmNets.BAD, x -> x.sort(ohms, 1));
            Refused.inEach("sort(" + ohms + ", 50)", OhmNets.BAD, x -> x.sort(ohms, 50));
        }
        for (int price : NO_PRICE) {
            Refused.inEach("sort(1, " + price + ")", OhmNets.BAD, x -> x.sort(1, price));
            Refused.inEach("sort(100, " + price + ")", OhmNets.BAD, x -> x.sort(100, price));
        }
    }

    private static void sortFull() {
        Sentence.of(16, "A SORT: its number. BAD; FULL.");
        Refused.in(State.FULL, "a seventh, sort(1, 1)", OhmNets.FULL, x -> x.sort(1, 1));
        Refused.in(State.FULL, "a seventh, sort(100, 50)", OhmNets.FULL, x -> x.sort(100, 50));
        OhmNets x = State.FULL.make();
        x.cut();
        Due.due("a seventh, when a WIRE is gone", x.sort(1, 1), OhmNets.FULL);
    }

    private static void sortBadAheadOfFull() {
        Sentence.of(16, Sentence.REFUSED_FIRST);
        Refused.in(State.FULL, "sort(0, 1) of a full shop", OhmNets.BAD, x -> x.sort(0, 1));
        Refused.in(State.FULL, "sort(101, 1) of a full shop", OhmNets.BAD, x -> x.sort(101, 1));
        Refused.in(State.FULL, "sort(1, 0) of a full shop", OhmNets.BAD, x -> x.sort(1, 0));
        Refused.in(State.FULL, "sort(1, 51) of a full shop", OhmNets.BAD, x -> x.sort(1, 51));
    }

    private static void nearestAtTheEdges() {
        Sentence.of(17, "THE NEAREST to u by d (1 .. 1000 each).");
        OhmNets x = shop(100, 1, 99, 50, 1, 2);
        Due.due("nearest(1, 1000): the least is a SIDE of the least", x.nearest(1, 1000), 222);
        Due.due("nearest(1000, 1): the largest is a ROW of the largest", x.nearest(1000, 1), 100);
        Due.due("nearest(1, 1)", x.nearest(1, 1), 2);
        Due.due("nearest(1000, 1000): not in its least form", x.nearest(1000, 1000), 2);
        Due.due("nearest(1000, 10): not in its least form", x.nearest(1000, 10), 0);
        Due.due("nearest(995, 20): 49 3 / 4 lies between SIDES of 100 and 99", x.nearest(995, 20), 201);
        OhmNets one = shop(1, 1);
        Due.due("of one SORT, nearest(1, 2)", one.nearest(1, 2), 200);
        Due.due("of one SORT, nearest(1, 1)", one.nearest(1, 1), 0);
        Due.due("of one SORT, nearest(2, 1)", one.nearest(2, 1), 100);
    }

    private static void nearestLeastDifference() {
        Sentence.of(17, "THE NEAREST to a share told: least in size of the difference");
        // 100 by 99 are 9900 / 199, 99 by 98 are 9702 / 197: the numbers on both sides are as large as they get.
        OhmNets x = shop(100, 50, 99, 50, 98, 50);
        Due.due("just below half the way", x.nearest(994, 20), 201);
        Due.due("nearest(989, 20)", x.nearest(989, 20), 202);
        Due.due("nearest(999, 20)", x.nearest(999, 20), 200);
        Due.due("nearest(49, 1)", x.nearest(49, 1), 222);
        Due.due("a costly one that is nearer", shop(10, 50, 12, 1).nearest(10, 1), 0);
        Due.due("a little nearer from above", shop(10, 1, 12, 50).nearest(1000, 90), 1);
        Due.due("a little nearer from below", shop(10, 50, 12, 1).nearest(1000, 91), 0);
    }

    private static void nearestLeastPrice() {
        Sentence.of(17, "of several that of least PRICE (of both together)");
        Due.due("the same OHMS", shop(10, 5, 10, 4).nearest(10, 1), 1);
        Due.due("as far above as below", shop(10, 2, 12, 1).nearest(11, 1), 1);
        Due.due("as far below as above", shop(12, 2, 10, 1).nearest(11, 1), 1);
        Due.due("two cheap ones ahead of one", shop(2, 3, 1, 1).nearest(2, 1), 111);
        Due.due("one ahead of two that cost more together", shop(2, 3, 1, 2).nearest(2, 1), 0);
        Due.due("two that cost 99 and 100", shop(50, 50, 50, 49).nearest(25, 1), 211);
    }

    private static void nearestLeastNumber() {
        Sentence.of(17, "of several the least number.");
        Due.due("SORTS alike", shop(10, 5, 10, 5).nearest(10, 1), 0);
        Due.due("ROWS alike", shop(10, 5, 10, 5).nearest(20, 1), 100);
        Due.due("SIDES alike", shop(10, 5, 10, 5).nearest(5, 1), 200);
        Due.due("one ahead of a ROW", shop(1, 1, 2, 2).nearest(2, 1), 1);
        Due.due("one ahead of a SIDE", shop(4, 1, 2, 2).nearest(2, 1), 1);
        Due.due("a ROW ahead of a SIDE", shop(1, 4, 4, 4).nearest(2, 1), 100);
        Due.due("of six alike", shop(9, 9, 9, 9, 9, 9, 9, 9, 9, 9, 9, 9).nearest(1000, 1), 100);
    }

    private static void nearestRefused() {
        Sentence.of(17, "(1 .. 1000 each). BAD; STATE: there are no SORTS.");
        for (int told : NOT_TOLD) {
            Refused.inEach("nearest(" + told + ", 1)", OhmNets.BAD, x -> x.nearest(told, 1));
            Refused.inEach("nearest(1, " + told + ")", OhmNets.BAD, x -> x.nearest(1, told));
            Refused.inEach("nearest(" + told + ", " + told + ")", OhmNets.BAD, x -> x.nearest(told, told));
        }
    }

    private static void nearestWithoutSorts() {
        Sentence.of(17, "STATE: there are no SORTS.");
        Refused.in(State.NEW, "nearest(1, 1)", OhmNets.STATE, x -> x.nearest(1, 1));
        Refused.in(State.NEW, "nearest(1000, 1000)", OhmNets.STATE, x -> x.nearest(1000, 1000));
        Refused.in(State.NEW, "nearest(1, 1) after a refused SORT", OhmNets.STATE, x -> {
            x.sort(0, 1);
            return x.nearest(1, 1);
        });
        OhmNets net = new OhmNets();
        net.wire(0, 0, 1, 0, 0);
        Due.due("WIRES are no SORTS", net.nearest(1, 1), OhmNets.STATE);
    }

    private static void nearestBadAheadOfState() {
        Sentence.of(17, Sentence.REFUSED_FIRST);
        Refused.in(State.NEW, "nearest(0, 1) of none", OhmNets.BAD, x -> x.nearest(0, 1));
        Refused.in(State.NEW, "nearest(1, 0) of none", OhmNets.BAD, x -> x.nearest(1, 0));
        Refused.in(State.NEW, "nearest(1001, 1) of none", OhmNets.BAD, x -> x.nearest(1001, 1));
        Refused.in(State.NEW, "nearest(1, 1001) of none", OhmNets.BAD, x -> x.nearest(1, 1001));
    }

    private static void checkChoice(OhmNets x, int choice, int upper, int lower, int price) {
        int[] due = {upper, lower, price};
        for (int what = 0; what <= 2; what++) {
            Due.due("choice(" + choice + ", " + what + ")", x.choice(choice, what), due[what]);
        }
    }

    private static void choiceOfOneSort() {
        Sentence.of(18, "a ROW, a SIDE of two SORTS i, k (i at most k)");
        OhmNets x = shop(5, 3);
        checkChoice(x, 0, 5, 1, 3);
        checkChoice(x, 100, 10, 1, 6);
        checkChoice(x, 200, 5, 2, 6);
        Due.due("i at most k: choice(110, 0)", State.FULL.make().choice(110, 0), OhmNets.BAD);
        Due.due("i at most k: choice(254, 0)", State.FULL.make().choice(254, 0), OhmNets.BAD);
    }

    private static void choiceLeastAndLargest() {
        Sentence.of(18, "A CHOICE's share: UPPER (0), LOWER (1); its PRICE (2).");
        OhmNets x = shop(1, 1, 100, 50, 99, 49, 3, 3, 4, 4, 100, 50);
        checkChoice(x, 0, 1, 1, 1);
        checkChoice(x, 100, 2, 1, 2);
        checkChoice(x, 200, 1, 2, 2);
        checkChoice(x, 5, 100, 1, 50);
        checkChoice(x, 155, 200, 1, 100);
        checkChoice(x, 255, 50, 1, 100);
        checkChoice(x, 212, 9900, 199, 99);
    }

    private static void choiceLeastForm() {
        Sentence.of(18, "SHARES are fractions above 0 in their least form (UPPER, LOWER).");
        checkChoice(shop(10, 1, 15, 1), 201, 6, 1, 2);
        checkChoice(shop(6, 1, 4, 1), 201, 12, 5, 2);
        checkChoice(shop(100, 1, 100, 1), 201, 50, 1, 2);
    }

    private static void choiceNumbers() {
        Sentence.of(18, "as numbers: i; 100 and 10 i + k; 200 and 10 i + k.");
        for (int sorts = 1; sorts <= 6; sorts++) {
            OhmNets x = new OhmNets();
            boolean[] is = new boolean[330];
            for (int i = 0; i < sorts; i++) {
                x.sort(i + 1, i + 1);
                is[i] = true;
            }
            for (int i = 0; i < sorts; i++) {
                for (int k = i; k < sorts; k++) {
                    is[100 + 10 * i + k] = true;
                    is[200 + 10 * i + k] = true;
                }
            }
            for (int choice = 0; choice < is.length; choice++) {
                Due.holds("of " + sorts + " SORTS, choice(" + choice + ", 2)", (x.choice(choice, 2) != OhmNets.BAD) == is[choice]);
            }
        }
    }

    private static void choiceRefused() {
        Sentence.of(18, "BAD: no such CHOICE.");
        int[] never = {-1, -100, -200, 6, 10, 11, 99, 106, 110, 160, 166, 199, 210, 266, 299, 300, 355, 256 * 256,
            Integer.MIN_VALUE, Integer.MIN_VALUE + 1, Integer.MAX_VALUE};
        for (int choice : never) {
            for (int what = 0; what <= 2; what++) {
                int asked = what;
                Refused.inEach("choice(" + choice + ", " + what + ")", OhmNets.BAD, x -> x.choice(choice, asked));
            }
        }
        for (int choice : new int[] {3, 103, 113, 133, 203, 223, 233}) {
            Refused.in(State.SOME, "choice(" + choice + ", 0) of three SORTS", OhmNets.BAD, x -> x.choice(choice, 0));
        }
        for (int what : NO_WHAT) {
            Refused.inEach("choice(0, " + what + ")", OhmNets.BAD, x -> x.choice(0, what));
            Refused.inEach("choice(101, " + what + ")", OhmNets.BAD, x -> x.choice(101, what));
            Refused.inEach("choice(222, " + what + ")", OhmNets.BAD, x -> x.choice(222, what));
        }
    }

    private static void countEmptyAndFull() {
        Sentence.of(19, "0 WIRES, 1 SORTS, 2 KNOTS that have WIRES.");
        int[][] due = {{0, 0, 0}, {4, 3, 5}, {12, 6, 6}};
        for (State state : State.values()) {
            for (int what = 0; what <= 2; what++) {
                Due.due(state + ": count(" + what + ")", state.make().count(what), due[state.ordinal()][what]);
            }
        }
        OhmNets x = new OhmNets();
        for (int w = 0; w < 12; w++) {
            x.wire(0, 0, 5, 0, 0);
        }
        Due.due("twelve side by side: count(2)", x.count(2), 2);
        for (int w = 0; w < 12; w++) {
            x.cut();
        }
        Due.due("all cut: count(0)", x.count(0), 0);
        Due.due("all cut: count(2)", x.count(2), 0);
    }

    private static void countRefused() {
        Sentence.of(19, "0 WIRES, 1 SORTS, 2 KNOTS that have WIRES. BAD.");
        for (int what : NO_WHAT) {
            Refused.inEach("count(" + what + ")", OhmNets.BAD, x -> x.count(what));
        }
    }

    private static void traceOfEachKind() {
        Sentence.of(20, "numbers in brackets come to THE TRACE as often as ohms() asks that body");
        OhmNets x = new OhmNets();
        Due.due("new: trace()", x.trace(), 0);
        x.wire(0, 0, 1, 0, 0);
        x.wire(1, 0, 1, 1, 0);
        x.wire(2, 0, 1, 1, 1);
        int[] each = {1, 11, 111};
        long due = 0;
        for (int ask = 0; ask < 120; ask++) {
            x.ohms(ask % 3, ask % 2);
            due += each[ask % 3];
            Due.due("trace()", x.trace(), due);
        }
        x.cut();
        x.cut();
        x.cut();
        Due.due("when all WIRES are gone, trace()", x.trace(), due);
        x.wire(0, 0, 1, 0, 0);
        x.ohms(0, 0);
        Due.due("of a WIRE instead, trace()", x.trace(), due + 1);
    }

    private static void traceOfOthersCalls() {
        Sentence.of(20, "numbers in brackets come to THE TRACE as often as ohms() asks that body");
        OhmNets x = State.FULL.make();
        long before = x.trace();
        for (int a = 0; a <= 5; a++) {
            for (int b = 0; b <= 5; b++) {
                x.between(a, b, 0);
                x.falls(a, b);
                x.through(11, a, b, 1);
            }
        }
        x.trees();
        x.about(11, 0);
        x.cut();
        x.wire(2, 0, 1, 4, 4);
        x.many(9);
        x.made(9, 0, 0);
        x.nearest(1, 1);
        x.choice(255, 0);
        x.count(2);
        x.trace();
        Due.due("trace()", x.trace(), before);
    }

    private static void traceOfRefusedCalls() {
        Sentence.of(20, Sentence.REFUSED_FIRST);
        OhmNets x = State.SOME.make();
        x.ohms(-1, 0);
        x.ohms(4, 0);
        x.ohms(4, 1);
        x.ohms(0, 2);
        x.ohms(1, -1);
        x.ohms(2, Integer.MAX_VALUE);
        Due.due("after ohms() that was refused, trace()", x.trace(), 122);
        Due.due("of none, ohms(0, 0)", new OhmNets().ohms(0, 0), OhmNets.BAD);
    }
}
