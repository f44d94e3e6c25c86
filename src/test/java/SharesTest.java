import java.util.ArrayList;
import java.util.List;
import java.util.TreeSet;

/** Promises 1 to 7: the program beside shares that are found the long way round. */
public final class SharesTest {
    private static final int MOST = 9;
    private static final int[] MANY = {1, 2, 4, 9, 22, 53, 131, 337, 869};
    private static final int[] WRONG_PARTS = {0, -1, 10, Integer.MIN_VALUE, Integer.MAX_VALUE};
    private static final int[] WRONG_TOLD = {0, -1, 1000001, Integer.MIN_VALUE, Integer.MAX_VALUE};

    private static final List<List<Ratio>> shares = new ArrayList<>();

    public static void main(String[] args) {
        findShares();
        promise2Many();
        promise3Share();
        promise4Rank();
        promise5Fewest();
        promise6Made();
        promise7Turned();
        anyOrder();
        Due.end();
    }

    private static OhmNets x() {
        return Fresh.x();
    }

    private static void findShares() {
        shares.add(List.of());
        shares.add(List.of(Ratio.ONE));
        for (int n = 2; n <= MOST; n++) {
            TreeSet<Ratio> found = new TreeSet<>();
            for (int a = 1; a < n; a++) {
                for (Ratio first : shares.get(a)) {
                    for (Ratio second : shares.get(n - a)) {
                        found.add(join(1, first, second));
                        found.add(join(2, first, second));
                    }
                }
            }
            shares.add(new ArrayList<>(found));
        }
    }

    private static Ratio join(int how, Ratio first, Ratio second) {
        Ratio sum = first.plus(second);
        return how == 1 ? sum : first.times(second).by(sum);
    }

    private static void promise2Many() {
        for (int n = 1; n <= MOST; n++) {
            Due.due("many(" + n + ")", x().many(n), MANY[n - 1]);
            Due.due("many(" + n + ") found", x().many(n), shares.get(n).size());
        }
        for (int n : WRONG_PARTS) {
            Due.due("many(" + n + ")", x().many(n), OhmNets.BAD);
        }
    }

    private static void promise3Share() {
        for (int n = 1; n <= MOST; n++) {
            for (int i = 0; i < shares.get(n).size(); i++) {
                String call = "share(" + n + ", " + i + ", ";
                Due.due(call + "0)", x().share(n, i, 0), shares.get(n).get(i).part(0));
                Due.due(call + "1)", x().share(n, i, 1), shares.get(n).get(i).part(1));
            }
            int size = shares.get(n).size();
            for (int i : new int[] {-1, size, Integer.MIN_VALUE, Integer.MAX_VALUE}) {
                Due.due("share(" + n + ", " + i + ", 0)", x().share(n, i, 0), OhmNets.BAD);
            }
            for (int part : new int[] {-1, 2, Integer.MIN_VALUE, Integer.MAX_VALUE}) {
                Due.due("share(" + n + ", 0, " + part + ")", x().share(n, 0, part), OhmNets.BAD);
            }
        }
        for (int n : WRONG_PARTS) {
            Due.due("share(" + n + ", 0, 0)", x().share(n, 0, 0), OhmNets.BAD);
        }
    }

    private static void promise4Rank() {
        for (int n = 1; n <= MOST; n++) {
            for (int u = 1; u <= 60; u++) {
                for (int d = 1; d <= 60; d++) {
                    int found = shares.get(n).indexOf(Ratio.of(u, d));
                    Due.due("rank(" + n + ", " + u + ", " + d + ")", x().rank(n, u, d), found < 0 ? OhmNets.NONE : found);
                }
            }
            Due.due("rank(" + n + ", 1000000, 1000000)", x().rank(n, 1000000, 1000000),
                orNone(shares.get(n).indexOf(Ratio.ONE)));
            Due.due("rank(" + n + ", 1000000, 1)", x().rank(n, 1000000, 1), OhmNets.NONE);
            Due.due("rank(" + n + ", 1, 1000000)", x().rank(n, 1, 1000000), OhmNets.NONE);
            Due.due("rank(" + n + ", 999999, 1000000)", x().rank(n, 999999, 1000000), OhmNets.NONE);
        }
        Due.due("rank(4, 999999, 333333)", x().rank(4, 999999, 333333), orNone(shares.get(4).indexOf(Ratio.of(3, 1))));
        for (int n : WRONG_PARTS) {
            Due.due("rank(" + n + ", 1, 1)", x().rank(n, 1, 1), OhmNets.BAD);
        }
        for (int told : WRONG_TOLD) {
            Due.due("rank(2, " + told + ", 1)", x().rank(2, told, 1), OhmNets.BAD);
            Due.due("rank(2, 1, " + told + ")", x().rank(2, 1, told), OhmNets.BAD);
        }
    }

    private static int orNone(int index) {
        return index < 0 ? OhmNets.NONE : index;
    }

    private static void promise5Fewest() {
        for (int u = 1; u <= 60; u++) {
            for (int d = 1; d <= 60; d++) {
                Due.due("fewest(" + u + ", " + d + ")", x().fewest(u, d), fewest(Ratio.of(u, d)));
            }
        }
        Due.due("fewest(1000000, 1000000)", x().fewest(1000000, 1000000), 1);
        Due.due("fewest(900000, 100000)", x().fewest(900000, 100000), 9);
        Due.due("fewest(1, 9)", x().fewest(1, 9), 9);
        Due.due("fewest(10, 1)", x().fewest(10, 1), OhmNets.NONE);
        Due.due("fewest(1000000, 1)", x().fewest(1000000, 1), OhmNets.NONE);
        for (int told : WRONG_TOLD) {
            Due.due("fewest(" + told + ", 1)", x().fewest(told, 1), OhmNets.BAD);
            Due.due("fewest(1, " + told + ")", x().fewest(1, told), OhmNets.BAD);
        }
    }

    private static int fewest(Ratio told) {
        for (int n = 1; n <= MOST; n++) {
            if (shares.get(n).contains(told)) {
                return n;
            }
        }
        return OhmNets.NONE;
    }

    private static void promise6Made() {
        Due.due("made(1, 0, 0)", x().made(1, 0, 0), 0);
        for (int what = 1; what <= 3; what++) {
            Due.due("made(1, 0, " + what + ")", x().made(1, 0, what), OhmNets.NONE);
        }
        for (int n = 2; n <= MOST; n++) {
            for (int i = 0; i < shares.get(n).size(); i++) {
                int[] due = made(n, shares.get(n).get(i));
                for (int what = 0; what <= 3; what++) {
                    Due.due("made(" + n + ", " + i + ", " + what + ")", x().made(n, i, what), due[what]);
                }
            }
        }
        for (int n : WRONG_PARTS) {
            Due.due("made(" + n + ", 0, 0)", x().made(n, 0, 0), OhmNets.BAD);
        }
        for (int wrong : new int[] {-1, 4, Integer.MIN_VALUE, Integer.MAX_VALUE}) {
            Due.due("made(1, 0, " + wrong + ")", x().made(1, 0, wrong), OhmNets.BAD);
            Due.due("made(3, 0, " + wrong + ")", x().made(3, 0, wrong), OhmNets.BAD);
            Due.due("made(3, " + wrong + ", 0)", x().made(3, wrong, 0), OhmNets.BAD);
        }
        Due.due("made(1, 1, 1)", x().made(1, 1, 1), OhmNets.BAD);
    }

    /** Tells from the one wanted backwards which second share it needs, so the order of search is another. */
    private static int[] made(int n, Ratio wanted) {
        for (int how = 1; how <= 2; how++) {
            for (int a = 1; 2 * a <= n; a++) {
                for (int first = 0; first < shares.get(a).size(); first++) {
                    int second = shares.get(n - a).indexOf(missing(how, wanted, shares.get(a).get(first)));
                    if (second >= 0) {
                        return new int[] {how, a, first, second};
                    }
                }
            }
        }
        return new int[] {0, 0, 0, 0};
    }

    private static Ratio missing(int how, Ratio wanted, Ratio first) {
        if (how == 1) {
            return wanted.minus(first);
        }
        Ratio turned = Ratio.ONE.by(wanted).minus(Ratio.ONE.by(first));
        return turned.isZero() ? Ratio.ZERO : Ratio.ONE.by(turned);
    }

    private static void promise7Turned() {
        for (int n = 1; n <= MOST; n++) {
            for (int i = 0; i < shares.get(n).size(); i++) {
                int due = shares.get(n).indexOf(Ratio.ONE.by(shares.get(n).get(i)));
                Due.due("turned(" + n + ", " + i + ")", x().turned(n, i), due);
            }
            for (int i : new int[] {-1, shares.get(n).size(), Integer.MIN_VALUE, Integer.MAX_VALUE}) {
                Due.due("turned(" + n + ", " + i + ")", x().turned(n, i), OhmNets.BAD);
            }
        }
        for (int n : WRONG_PARTS) {
            Due.due("turned(" + n + ", 0)", x().turned(n, 0), OhmNets.BAD);
        }
    }

    /** The first call of an object may ask for any n: what is found on the way must not depend on it. */
    private static void anyOrder() {
        for (int n = 1; n <= MOST; n++) {
            int last = shares.get(n).size() - 1;
            Due.due("new, many(" + n + ")", new OhmNets().many(n), last + 1);
            Due.due("new, share(" + n + ", last, 0)", new OhmNets().share(n, last, 0), n);
            Due.due("new, share(" + n + ", 0, 1)", new OhmNets().share(n, 0, 1), n);
            Due.due("new, rank(" + n + ", " + n + ", 1)", new OhmNets().rank(n, n, 1), last);
            Due.due("new, fewest(1, " + n + ")", new OhmNets().fewest(1, n), n);
            Due.due("new, made(" + n + ", last, 0)", new OhmNets().made(n, last, 0), n == 1 ? 0 : 1);
            Due.due("new, turned(" + n + ", 0)", new OhmNets().turned(n, 0), last);
        }
        Fresh.renew();
        for (int n = MOST; n >= 1; n--) {
            Due.due("from above, many(" + n + ")", x().many(n), MANY[n - 1]);
        }
    }
}
