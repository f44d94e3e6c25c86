/** Promises 2 to 7: a test for each sentence that names a least, a largest, a missing or a refused thing. */
public final class EdgeSharesTest {
    private static final int[] MANY = {0, 1, 2, 4, 9, 22, 53, 131, 337, 869};
    private static final int MOST = 1000000;

    // Below, above, at the ends of int, and what a byte or a short would hold as 1 .. 9.
    private static final int[] NO_PARTS = {0, -1, -9, 10, 11, 256 + 4, 65536 + 4, Integer.MIN_VALUE, Integer.MIN_VALUE + 4,
        Integer.MAX_VALUE};
    private static final int[] NOT_TOLD = {0, -1, -MOST, MOST + 1, MOST + 2, 65536 * 256, Integer.MIN_VALUE,
        Integer.MIN_VALUE + 1, Integer.MAX_VALUE};
    private static final int[] NO_BIT = {-1, 2, 256, 65536, Integer.MIN_VALUE, Integer.MAX_VALUE};
    private static final int[] NO_WHAT = {-1, 4, 256, 65536, Integer.MIN_VALUE, Integer.MAX_VALUE};

    public static void main(String[] args) {
        manyOfLeastAndMostParts();
        manyRefused();
        shareOfOnePart();
        shareFirstAndLast();
        shareOrder();
        shareLeastForm();
        shareRefusedParts();
        shareRefusedRank();
        shareRefusedPart();
        rankOfAllForms();
        rankNone();
        rankAtTheEdges();
        rankRefused();
        fewestAtTheEdges();
        fewestNone();
        fewestRefused();
        madeOfAPart();
        madeOfTwoParts();
        madeOfHalves();
        madeRowAheadOfSide();
        madeLeastFirstTree();
        madeLeastRank();
        madeRefused();
        turnedAtTheEdges();
        turnedRefused();
        Sentence.end(2, 7);
    }

    private static OhmNets x() {
        return Fresh.x();
    }

    private static void manyOfLeastAndMostParts() {
        Sentence.of(2, "SHARES (n), n 1 .. 9, are those that TREES of n PARTS have");
        for (int n = 1; n <= 9; n++) {
            Due.due("many(" + n + ")", x().many(n), MANY[n]);
            Due.due("new, many(" + n + ")", new OhmNets().many(n), MANY[n]);
        }
    }

    private static void manyRefused() {
        Sentence.of(2, "How many SHARES (n) there are. BAD.");
        for (int n : NO_PARTS) {
            Refused.inEach("many(" + n + ")", OhmNets.BAD, x -> x.many(n));
        }
    }

    private static void shareOfOnePart() {
        Sentence.of(3, "a PART is a TREE of one PART, 1 / 1");
        Due.due("share(1, 0, 0)", x().share(1, 0, 0), 1);
        Due.due("share(1, 0, 1)", x().share(1, 0, 1), 1);
        Refused.inEach("share(1, 1, 0)", OhmNets.BAD, x -> x.share(1, 1, 0));
    }

    private static void shareFirstAndLast() {
        Sentence.of(3, "in order by size, from the least on (their RANK, from 0)");
        for (int n = 1; n <= 9; n++) {
            Due.due("the least of " + n + ", UPPER", x().share(n, 0, 0), 1);
            Due.due("the least of " + n + ", LOWER", x().share(n, 0, 1), n);
            Due.due("the largest of " + n + ", UPPER", x().share(n, MANY[n] - 1, 0), n);
            Due.due("the largest of " + n + ", LOWER", x().share(n, MANY[n] - 1, 1), 1);
        }
    }

    private static void shareOrder() {
        Sentence.of(3, "in order by size, from the least on (their RANK, from 0)");
        for (int n = 2; n <= 9; n++) {
            for (int i = 1; i < MANY[n]; i++) {
                Due.holds("of " + n + ", " + i + " is above the one before", at(n, i - 1).compareTo(at(n, i)) < 0);
            }
        }
    }

    private static Ratio at(int n, int i) {
        return Ratio.of(x().share(n, i, 0), x().share(n, i, 1));
    }

    private static void shareLeastForm() {
        Sentence.of(3, "SHARES are fractions above 0 in their least form (UPPER, LOWER).");
        for (int n = 1; n <= 9; n++) {
            for (int i = 0; i < MANY[n]; i++) {
                int upper = x().share(n, i, 0);
                int lower = x().share(n, i, 1);
                Due.holds(upper + " / " + lower + " of " + n + " is above 0", upper > 0 && lower > 0);
                Due.holds(upper + " / " + lower + " of " + n + " is in its least form",
                    lower > 0 && Ratio.of(upper, lower).part(1) == lower);
            }
        }
    }

    private static void shareRefusedParts() {
        Sentence.of(3, "SHARES (n), n 1 .. 9, are those that TREES of n PARTS have");
        for (int n : NO_PARTS) {
            Refused.inEach("share(" + n + ", 0, 0)", OhmNets.BAD, x -> x.share(n, 0, 0));
        }
    }

    private static void shareRefusedRank() {
        Sentence.of(3, "The one of RANK i of SHARES (n): UPPER (part = 0), LOWER (1). BAD.");
        for (int n = 1; n <= 9; n++) {
            int parts = n;
            for (int i : noRank(n)) {
                Refused.inEach("share(" + n + ", " + i + ", 0)", OhmNets.BAD, x -> x.share(parts, i, 0));
                Refused.in(State.SOME, "share(" + n + ", " + i + ", 1)", OhmNets.BAD, x -> x.share(parts, i, 1));
            }
        }
    }

    /** The one below the first RANK, the one above the last, and those that would wrap around to a RANK. */
    private static int[] noRank(int n) {
        return new int[] {-1, MANY[n], -MANY[n], Integer.MIN_VALUE, Integer.MAX_VALUE, 65536};
    }

    private static void shareRefusedPart() {
        Sentence.of(3, "The one of RANK i of SHARES (n): UPPER (part = 0), LOWER (1). BAD.");
        for (int part : NO_BIT) {
            Refused.inEach("share(4, 0, " + part + ")", OhmNets.BAD, x -> x.share(4, 0, part));
            Refused.inEach("share(1, 0, " + part + ")", OhmNets.BAD, x -> x.share(1, 0, part));
        }
    }

    private static void rankOfAllForms() {
        Sentence.of(4, "RANK of u by d (not in its least form, too) among SHARES (n)");
        for (int n = 1; n <= 9; n++) {
            for (int i = 0; i < MANY[n]; i++) {
                int u = x().share(n, i, 0);
                int d = x().share(n, i, 1);
                int most = MOST / Math.max(u, d);
                for (int times : new int[] {1, 2, most}) {
                    Due.due("rank(" + n + ", " + u * times + ", " + d * times + ")", x().rank(n, u * times, d * times), i);
                }
            }
        }
    }

    private static void rankNone() {
        Sentence.of(4, "among SHARES (n); NONE.");
        Due.due("rank(1, 1, 2)", x().rank(1, 1, 2), OhmNets.NONE);
        Due.due("rank(1, 2, 1)", x().rank(1, 2, 1), OhmNets.NONE);
        Due.due("rank(2, 1, 1): not of two", x().rank(2, 1, 1), OhmNets.NONE);
        Due.due("rank(3, 1, 1): not of three", x().rank(3, 1, 1), OhmNets.NONE);
        for (int n = 1; n <= 9; n++) {
            Due.due("below the least of " + n, x().rank(n, 1, n + 1), OhmNets.NONE);
            Due.due("above the largest of " + n, x().rank(n, n + 1, 1), OhmNets.NONE);
            Due.due("just below the least of " + n, x().rank(n, MOST / n - 1, MOST / n * n), OhmNets.NONE);
            Due.due("just above the least of " + n, x().rank(n, MOST / n, MOST / n * n - 1), OhmNets.NONE);
            Due.due("just below the largest of " + n, x().rank(n, MOST / n * n - 1, MOST / n), OhmNets.NONE);
        }
    }

    private static void rankAtTheEdges() {
        Sentence.of(4, "BAD: n; u, d 1 .. 1000000.");
        Due.due("rank(1, 1, 1)", x().rank(1, 1, 1), 0);
        Due.due("rank(1, 1000000, 1000000)", x().rank(1, MOST, MOST), 0);
        Due.due("rank(4, 1000000, 1000000)", x().rank(4, MOST, MOST), 4);
        Due.due("rank(9, 1000000, 1)", x().rank(9, MOST, 1), OhmNets.NONE);
        Due.due("rank(9, 1, 1000000)", x().rank(9, 1, MOST), OhmNets.NONE);
        Due.due("rank(8, 1000000, 125000)", x().rank(8, MOST, MOST / 8), 336);
        Due.due("rank(8, 125000, 1000000)", x().rank(8, MOST / 8, MOST), 0);
    }

    private static void rankRefused() {
        Sentence.of(4, "BAD: n; u, d 1 .. 1000000.");
        for (int n : NO_PARTS) {
            Refused.inEach("rank(" + n + ", 1, 1)", OhmNets.BAD, x -> x.rank(n, 1, 1));
        }
        for (int told : NOT_TOLD) {
            Refused.inEach("rank(4, " + told + ", 1)", OhmNets.BAD, x -> x.rank(4, told, 1));
            Refused.inEach("rank(4, 1, " + told + ")", OhmNets.BAD, x -> x.rank(4, 1, told));
            // Both alike would be 1 / 1, which SHARES (1) have.
            Refused.inEach("rank(1, " + told + ", " + told + ")", OhmNets.BAD, x -> x.rank(1, told, told));
        }
    }

    private static void fewestAtTheEdges() {
        Sentence.of(5, "The fewest PARTS, 9 at most, that have u by d");
        Due.due("fewest(1, 1): four and more PARTS have it, too", x().fewest(1, 1), 1);
        Due.due("fewest(1000000, 1000000)", x().fewest(MOST, MOST), 1);
        Due.due("fewest(1, 2)", x().fewest(1, 2), 2);
        for (int n = 1; n <= 9; n++) {
            Due.due("fewest(" + n + ", 1)", x().fewest(n, 1), n);
            Due.due("fewest(1, " + n + ")", x().fewest(1, n), n);
            Due.due("new, fewest(" + n + ", 1)", new OhmNets().fewest(n, 1), n);
        }
        Due.due("fewest(55, 34)", x().fewest(55, 34), 9);
        Due.due("fewest(34, 55)", x().fewest(34, 55), 9);
        Due.due("fewest(999999, 111111)", x().fewest(999999, 111111), 9);
    }

    private static void fewestNone() {
        Sentence.of(5, "that have u by d; NONE.");
        Due.due("fewest(10, 1): ten", x().fewest(10, 1), OhmNets.NONE);
        Due.due("fewest(1, 10): ten", x().fewest(1, 10), OhmNets.NONE);
        Due.due("fewest(89, 55): ten", x().fewest(89, 55), OhmNets.NONE);
        Due.due("fewest(55, 89): ten", x().fewest(55, 89), OhmNets.NONE);
        Due.due("fewest(1000000, 1)", x().fewest(MOST, 1), OhmNets.NONE);
        Due.due("fewest(1, 1000000)", x().fewest(1, MOST), OhmNets.NONE);
        Due.due("fewest(999999, 1000000)", x().fewest(MOST - 1, MOST), OhmNets.NONE);
    }

    /** The document tells the numbers u, d of a share once, with rank: 1 .. 1000000. */
    private static void fewestRefused() {
        Sentence.of(5, "NONE. BAD.");
        for (int told : NOT_TOLD) {
            Refused.inEach("fewest(" + told + ", 1)", OhmNets.BAD, x -> x.fewest(told, 1));
            Refused.inEach("fewest(1, " + told + ")", OhmNets.BAD, x -> x.fewest(1, told));
            Refused.inEach("fewest(" + told + ", " + told + ")", OhmNets.BAD, x -> x.fewest(told, told));
        }
    }

    private static void checkMade(int n, int i, int how, int parts, int first, int second) {
        int[] due = {how, parts, first, second};
        for (int what = 0; what <= 3; what++) {
            Due.due("made(" + n + ", " + i + ", " + what + ")", x().made(n, i, what), due[what]);
        }
    }

    private static void madeOfAPart() {
        Sentence.of(6, "3 RANK of the second one's (1 .. 3: NONE of a PART).");
        checkMade(1, 0, 0, OhmNets.NONE, OhmNets.NONE, OhmNets.NONE);
    }

    private static void madeOfTwoParts() {
        Sentence.of(6, "HOW the one of RANK i of SHARES (n), n 2 or more, is MADE");
        checkMade(2, 0, 2, 1, 0, 0);
        checkMade(2, 1, 1, 1, 0, 0);
        for (int n = 2; n <= 9; n++) {
            checkMade(n, 0, 2, 1, 0, 0);
            checkMade(n, MANY[n] - 1, 1, 1, 0, MANY[n - 1] - 1);
        }
    }

    private static void madeOfHalves() {
        Sentence.of(6, "of one of SHARES (a) and one of SHARES (n - a), a at most n - a, that have it");
        checkMade(4, 4, 1, 2, 0, 0);
        checkMade(8, 65, 1, 4, 0, 0);
        checkMade(8, 231, 2, 4, 7, 8);
        for (int n = 2; n <= 9; n++) {
            for (int i = 0; i < MANY[n]; i++) {
                int a = x().made(n, i, 1);
                Due.holds("made(" + n + ", " + i + ", 1) is at most the rest: " + a, a >= 1 && a <= n - a);
                int first = x().made(n, i, 2);
                int second = x().made(n, i, 3);
                Due.holds("made(" + n + ", " + i + ") is of RANKS that there are: " + first + ", " + second,
                    first >= 0 && first < MANY[a] && second >= 0 && second < MANY[n - a]);
            }
        }
    }

    private static void madeRowAheadOfSide() {
        Sentence.of(6, "a ROW ahead of a SIDE");
        // 2 / 3 is also a SIDE with one PART first, 3 / 5 with one and with two.
        checkMade(6, x().rank(6, 2, 3), 1, 3, 0, 0);
        checkMade(9, x().rank(9, 3, 5), 1, 4, 1, 0);
        // 1 / 1 of four is also a SIDE of 2 / 1 and 2 / 1.
        checkMade(4, x().rank(4, 1, 1), 1, 2, 0, 0);
        // A SIDE is told only of what is no ROW.
        checkMade(3, x().rank(3, 2, 3), 2, 1, 0, 1);
    }

    private static void madeLeastFirstTree() {
        Sentence.of(6, "of these the least a");
        // 5 / 2 of four is 1 + 3 / 2 and 1 / 2 + 2; 2 / 5 is the same of SIDES.
        checkMade(4, x().rank(4, 5, 2), 1, 1, 0, 2);
        checkMade(4, x().rank(4, 2, 5), 2, 1, 0, 1);
    }

    private static void madeLeastRank() {
        Sentence.of(6, "of these that with the least RANK of the first");
        // 1 / 1 of six is 1 / 3 + 2 / 3 and 2 / 3 + 1 / 3.
        checkMade(6, x().rank(6, 1, 1), 1, 3, 0, 1);
        checkMade(8, x().rank(8, 20, 23), 2, 4, 5, 7);
        checkMade(9, x().rank(9, 13, 9), 1, 3, 0, 28);
        checkMade(9, x().rank(9, 9, 13), 2, 3, 2, 31);
    }

    private static void madeRefused() {
        Sentence.of(6, "BAD: n, i, what.");
        for (int what = 0; what <= 3; what++) {
            int asked = what;
            for (int n : NO_PARTS) {
                Refused.inEach("made(" + n + ", 0, " + what + ")", OhmNets.BAD, x -> x.made(n, 0, asked));
            }
            for (int n : new int[] {1, 2, 9}) {
                for (int i : noRank(n)) {
                    Refused.inEach("made(" + n + ", " + i + ", " + what + ")", OhmNets.BAD, x -> x.made(n, i, asked));
                }
            }
        }
        for (int what : NO_WHAT) {
            Refused.inEach("made(1, 0, " + what + ")", OhmNets.BAD, x -> x.made(1, 0, what));
            Refused.inEach("made(2, 1, " + what + ")", OhmNets.BAD, x -> x.made(2, 1, what));
        }
    }

    private static void turnedAtTheEdges() {
        Sentence.of(7, "The RANK of one by that one of SHARES (n).");
        Due.due("turned(1, 0)", x().turned(1, 0), 0);
        for (int n = 1; n <= 9; n++) {
            Due.due("the least of " + n, x().turned(n, 0), MANY[n] - 1);
            Due.due("the largest of " + n, x().turned(n, MANY[n] - 1), 0);
            for (int i = 0; i < MANY[n]; i++) {
                int due = x().rank(n, x().share(n, i, 1), x().share(n, i, 0));
                Due.due("turned(" + n + ", " + i + ")", x().turned(n, i), due);
            }
        }
        Due.due("1 / 1 stays", x().turned(9, x().rank(9, 1, 1)), x().rank(9, 1, 1));
    }

    private static void turnedRefused() {
        Sentence.of(7, "The RANK of one by that one of SHARES (n). BAD.");
        for (int n : NO_PARTS) {
            Refused.inEach("turned(" + n + ", 0)", OhmNets.BAD, x -> x.turned(n, 0));
        }
        for (int n = 1; n <= 9; n++) {
            int parts = n;
            for (int i : noRank(n)) {
                Refused.inEach("turned(" + n + ", " + i + ")", OhmNets.BAD, x -> x.turned(parts, i));
            }
        }
    }
}
