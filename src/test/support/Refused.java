import java.util.ArrayList;
import java.util.List;

/**
 * Shows of a refused call that nothing changes: of two objects in the same state one is refused and the
 * other is not called, and both must go on alike.
 */
final class Refused {
    /** One call of an object. */
    interface Call {
        long on(OhmNets x);
    }

    private Refused() {
    }

    static void inEach(String name, long want, Call call) {
        for (State state : State.values()) {
            in(state, name, want, call);
        }
    }

    static void in(State state, String name, long want, Call call) {
        OhmNets refused = state.make();
        Due.due(state + ": " + name, call.on(refused), want);
        List<String> got = look(refused);
        List<String> due = look(state.make());
        for (int i = 0; i < due.size(); i++) {
            if (!got.get(i).equals(due.get(i))) {
                Due.holds(state + ": after " + name + ", that was refused, " + got.get(i) + ", due is " + due.get(i), false);
                return;
            }
        }
        Due.holds("as many answers", got.size() == due.size());
    }

    /** All that can be seen of an object, in some 260 calls; the last ones change it. */
    private static List<String> look(OhmNets x) {
        List<String> seen = new ArrayList<>();
        lookAtNet(x, seen);
        lookAtShop(x, seen);
        lookAtShares(x, seen);
        seen.add("trace() " + x.trace());
        lookByChanging(x, seen);
        return seen;
    }

    private static void lookAtNet(OhmNets x, List<String> seen) {
        seen.add("count(0) " + x.count(0) + ", count(2) " + x.count(2) + ", trees() " + x.trees());
        for (int w = 0; w < 13; w++) {
            seen.add("about(" + w + ") " + x.about(w, 0) + " " + x.about(w, 1) + " " + x.about(w, 2)
                + ", through(" + w + ", 0, 1) " + x.through(w, 0, 1, 0) + " " + x.through(w, 0, 1, 1));
        }
        for (int a = 0; a < 6; a++) {
            for (int b = a + 1; b < 6; b++) {
                String knots = "(" + a + ", " + b + ") ";
                seen.add("between" + knots + x.between(a, b, 0) + " " + x.between(a, b, 1) + ", falls" + knots + x.falls(a, b));
            }
        }
    }

    private static void lookAtShop(OhmNets x, List<String> seen) {
        seen.add("count(1) " + x.count(1));
        for (int i = 0; i < 7; i++) {
            seen.add("choice(" + i + ") " + x.choice(i, 0) + " " + x.choice(i, 1) + " " + x.choice(i, 2));
        }
        seen.add("nearest " + x.nearest(1, 1000) + " " + x.nearest(37, 2) + " " + x.nearest(1000, 1));
    }

    private static void lookAtShares(OhmNets x, List<String> seen) {
        for (int n = 9; n >= 1; n--) {
            int many = x.many(n);
            seen.add("many(" + n + ") " + many + ", share " + x.share(n, many / 3, 0) + " " + x.share(n, many - 1, 1)
                + ", rank " + x.rank(n, 4, 6) + ", made " + x.made(n, many / 3, 0) + " " + x.made(n, many / 3, 3)
                + ", turned " + x.turned(n, many / 3));
        }
        seen.add("fewest " + x.fewest(1, 1) + " " + x.fewest(55, 34));
    }

    private static void lookByChanging(OhmNets x, List<String> seen) {
        for (int w = 0; w < 12; w++) {
            seen.add("ohms(" + w + ") " + x.ohms(w, 0) + " " + x.ohms(w, 1) + ", trace() " + x.trace());
        }
        seen.add("sort(77, 7) " + x.sort(77, 7) + ", count(1) " + x.count(1));
        seen.add("wire(2, 0, 5, 3, 2) " + x.wire(2, 0, 5, 3, 2) + ", between(0, 5) " + x.between(0, 5, 0));
        for (int w = 0; w < 13; w++) {
            seen.add("cut() " + x.cut());
        }
        seen.add("trace() " + x.trace() + ", count(2) " + x.count(2));
    }
}
