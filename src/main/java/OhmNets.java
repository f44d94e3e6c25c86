import java.util.ArrayList;

/** Shares of like parts, nets of wires solved exactly, and a shop of parts: see README.md. */
public final class OhmNets {
    public static final int BAD = -1, STATE = -2, FULL = -3, NONE = -9;

    private static final int MOST_PARTS = 9;
    private static final int MOST_TOLD = 1000000;
    private static final int PART = 0;
    private static final int ROW = 1;
    private static final int SIDE = 2;

    private static final int KNOTS = 6;
    private static final int MOST_WIRES = 12;
    private static final int MOST_FACTOR = 4;
    private static final int ONE = 0;
    private static final int LONG = 1;
    private static final int THICK = 2;

    private static final int MOST_SORTS = 6;
    private static final int MOST_SORT_OHMS = 100;
    private static final int MOST_PRICE = 50;
    private static final int MOST_NEAREST = 1000;

    private final LikeParts likeParts = new LikeParts();
    private final Net net = new Net();
    private final Shop shop = new Shop();
    private final Fraction answer = new Fraction();
    private long traced = 0;

    public OhmNets() {
    }

    // ---- shares of like parts

    public int many(int n) {
        if (!isWithin(n, 1, MOST_PARTS)) {
            return BAD;
        }
        return likeParts.sharesOf(n).size();
    }

    public int share(int n, int i, int part) {
        Share found = shareAt(n, i);
        if (found == null || !isWithin(part, 0, 1)) {
            return BAD;
        }
        return part == 0 ? found.upper : found.lower;
    }

    public int rank(int n, int u, int d) {
        if (!isWithin(n, 1, MOST_PARTS) || !isTold(u, d, MOST_TOLD)) {
            return BAD;
        }
        return likeParts.sharesOf(n).find(u, d);
    }

    public int fewest(int u, int d) {
        if (!isTold(u, d, MOST_TOLD)) {
            return BAD;
        }
        for (int n = 1; n <= MOST_PARTS; n++) {
            if (likeParts.sharesOf(n).find(u, d) != NONE) {
                return n;
            }
        }
        return NONE;
    }

    public int made(int n, int i, int what) {
        Share found = shareAt(n, i);
        if (found == null) {
            return BAD;
        }
        switch (what) {
            case 0:
                return found.how;
            case 1:
                return found.firstParts;
            case 2:
                return found.firstRank;
            case 3:
                return found.secondRank;
            default:
                return BAD;
        }
    }

    public int turned(int n, int i) {
        if (shareAt(n, i) == null) {
            return BAD;
        }
        // A tree with every ROW made a SIDE and back has one by its share, so turning reverses the order.
        return likeParts.sharesOf(n).size() - 1 - i;
    }

    private Share shareAt(int n, int i) {
        if (!isWithin(n, 1, MOST_PARTS)) {
            return null;
        }
        return likeParts.sharesOf(n).at(i);
    }

    // ---- nets

    public int wire(int kind, int a, int b, int k, int m) {
        if (!isWithin(kind, ONE, THICK) || !areTwoKnots(a, b)) {
            return BAD;
        }
        // A THICK one is made of what LONG gives, so it looks at k too.
        if (kind >= LONG && !isWithin(k, 1, MOST_FACTOR)) {
            return BAD;
        }
        if (kind >= THICK && !isWithin(m, 1, MOST_FACTOR)) {
            return BAD;
        }
        if (net.size() >= MOST_WIRES) {
            return FULL;
        }
        return net.add(newWire(kind, a, b, k, m));
    }

    private static OneWire newWire(int kind, int a, int b, int k, int m) {
        if (kind == THICK) {
            return new ThickWire(kind, a, b, k, m);
        }
        if (kind == LONG) {
            return new LongWire(kind, a, b, k);
        }
        return new OneWire(kind, a, b);
    }

    public int cut() {
        if (net.size() == 0) {
            return STATE;
        }
        return net.removeLatest();
    }

    public int ohms(int wire, int part) {
        OneWire found = net.at(wire);
        if (found == null || !isWithin(part, 0, 1)) {
            return BAD;
        }
        traced += found.measure(answer);
        answer.reduce();
        return (int) answer.part(part);
    }

    public int about(int wire, int what) {
        OneWire found = net.at(wire);
        if (found == null) {
            return BAD;
        }
        switch (what) {
            case 0:
                return found.kind;
            case 1:
                return found.first;
            case 2:
                return found.second;
            default:
                return BAD;
        }
    }

    public long between(int a, int b, int part) {
        if (!isKnot(a) || !isKnot(b) || !isWithin(part, 0, 1)) {
            return BAD;
        }
        if (!net.hangTogether(a, b)) {
            return STATE;
        }
        net.solveBetween(a, b, answer);
        return answer.part(part);
    }

    public long through(int wire, int a, int b, int part) {
        if (net.at(wire) == null || !areTwoKnots(a, b) || !isWithin(part, 0, 1)) {
            return Long.MIN_VALUE;
        }
        if (!net.hangTogether(a, b)) {
            return Long.MIN_VALUE;
        }
        net.solveThrough(wire, a, b, answer);
        return answer.part(part);
    }

    public int trees() {
        return net.countTrees();
    }

    public int falls(int a, int b) {
        if (!areTwoKnots(a, b)) {
            return BAD;
        }
        if (!net.hangTogether(a, b)) {
            return STATE;
        }
        return net.fallsTogether(a, b) ? 1 : 0;
    }

    // ---- the shop

    public int sort(int ohms, int price) {
        if (!isWithin(ohms, 1, MOST_SORT_OHMS) || !isWithin(price, 1, MOST_PRICE)) {
            return BAD;
        }
        if (shop.size() >= MOST_SORTS) {
            return FULL;
        }
        return shop.add(ohms, price);
    }

    public int nearest(int u, int d) {
        if (!isTold(u, d, MOST_NEAREST)) {
            return BAD;
        }
        if (shop.size() == 0) {
            return STATE;
        }
        return shop.nearestTo(u, d);
    }

    public int choice(int choice, int what) {
        if (!shop.has(choice) || !isWithin(what, 0, 2)) {
            return BAD;
        }
        if (what == 2) {
            return shop.priceOf(choice);
        }
        shop.measure(choice, answer);
        answer.reduce();
        return (int) answer.part(what);
    }

    public int count(int what) {
        switch (what) {
            case 0:
                return net.size();
            case 1:
                return shop.size();
            case 2:
                return Integer.bitCount(net.knotsWithWires());
            default:
                return BAD;
        }
    }

    public long trace() {
        return traced;
    }

    // ---- what the numbers of a call may be

    private static boolean isWithin(int number, int least, int most) {
        return number >= least && number <= most;
    }

    private static boolean isTold(int u, int d, int most) {
        return isWithin(u, 1, most) && isWithin(d, 1, most);
    }

    private static boolean isKnot(int number) {
        return isWithin(number, 0, KNOTS - 1);
    }

    private static boolean areTwoKnots(int a, int b) {
        return isKnot(a) && isKnot(b) && a != b;
    }

    /** A fraction that is written over again and again, so that calls need no new objects. */
    private static final class Fraction {
        // Euclid needs fewer steps than this for any two longs.
        private static final int MOST_STEPS = 100;

        long upper = 0;
        long lower = 1;

        void set(long newUpper, long newLower) {
            upper = newUpper;
            lower = newLower;
        }

        void reduce() {
            long common = commonDivisor(Math.abs(upper), lower);
            if (common > 1) {
                upper /= common;
                lower /= common;
            }
        }

        long part(int part) {
            return part == 0 ? upper : lower;
        }

        static long commonDivisor(long a, long b) {
            long larger = a;
            long smaller = b;
            for (int step = 0; step < MOST_STEPS && smaller != 0; step++) {
                long rest = larger % smaller;
                larger = smaller;
                smaller = rest;
            }
            return larger;
        }
    }

    /** One of SHARES (n), with HOW it is MADE. */
    private static final class Share {
        final int upper;
        final int lower;
        final int how;
        final int firstParts;
        final int firstRank;
        final int secondRank;

        Share(int upper, int lower, int how, int firstParts, int firstRank, int secondRank) {
            this.upper = upper;
            this.lower = lower;
            this.how = how;
            this.firstParts = firstParts;
            this.firstRank = firstRank;
            this.secondRank = secondRank;
        }
    }

    /** SHARES (n) of one n, from the least on. */
    private static final class Shares {
        // Halving a list ends in fewer steps than an int has bits.
        private static final int MOST_HALVINGS = 32;

        private final ArrayList<Share> inOrder = new ArrayList<>();

        int size() {
            return inOrder.size();
        }

        /** The one of that RANK, or null. */
        Share at(int rank) {
            if (rank < 0 || rank >= inOrder.size()) {
                return null;
            }
            return inOrder.get(rank);
        }

        /** The RANK of u by d, or NONE. */
        int find(int u, int d) {
            int place = placeOf(u, d);
            return isAt(place, u, d) ? place : NONE;
        }

        /** Takes u by d, if it is not here yet: what is offered first says how it is made. */
        void offer(Fraction value, int how, int firstParts, int firstRank, int secondRank) {
            int u = (int) value.upper;
            int d = (int) value.lower;
            int place = placeOf(u, d);
            if (isAt(place, u, d)) {
                return;
            }
            value.reduce();
            u = (int) value.upper;
            d = (int) value.lower;
            inOrder.add(place, new Share(u, d, how, firstParts, firstRank, secondRank));
        }

        /** How many are below u by d. */
        private int placeOf(int u, int d) {
            int low = 0;
            int high = inOrder.size();
            for (int step = 0; step < MOST_HALVINGS && low < high; step++) {
                int middle = (low + high) / 2;
                if (difference(inOrder.get(middle), u, d) < 0) {
                    low = middle + 1;
                } else {
                    high = middle;
                }
            }
            return low;
        }

        private boolean isAt(int place, int u, int d) {
            return place < inOrder.size() && difference(inOrder.get(place), u, d) == 0;
        }

        /** The share less u by d, times both lower numbers. */
        private static long difference(Share share, int u, int d) {
            return (long) share.upper * d - (long) u * share.lower;
        }
    }

    /** SHARES (1) to SHARES (9), each found when it is first asked for. */
    private static final class LikeParts {
        private final Shares[] byParts = new Shares[MOST_PARTS];
        private final Fraction value = new Fraction();
        private int known = 0;

        LikeParts() {
            for (int i = 0; i < MOST_PARTS; i++) {
                byParts[i] = new Shares();
            }
        }

        /** n is 1 .. 9. */
        Shares sharesOf(int n) {
            for (int next = known + 1; next <= n; next++) {
                fill(next);
                known = next;
            }
            return byParts[n - 1];
        }

        private void fill(int n) {
            if (n == 1) {
                value.set(1, 1);
                byParts[0].offer(value, PART, NONE, NONE, NONE);
                return;
            }
            // Shares keep what is offered first, so this order is the order of HOW one is MADE.
            for (int how = ROW; how <= SIDE; how++) {
                for (int a = 1; a <= n - a; a++) {
                    offerPairs(n, how, a);
                }
            }
        }

        private void offerPairs(int n, int how, int a) {
            Shares target = byParts[n - 1];
            Shares firsts = byParts[a - 1];
            Shares seconds = byParts[n - a - 1];
            int firstCount = firsts.size();
            int secondCount = seconds.size();
            for (int i = 0; i < firstCount; i++) {
                for (int k = 0; k < secondCount; k++) {
                    if (join(firsts.at(i), seconds.at(k), how)) {
                        target.offer(value, how, a, i, k);
                    }
                }
            }
        }

        /** Writes the value of both together; false if one is missing. */
        private boolean join(Share first, Share second, int how) {
            if (first == null || second == null) {
                return false;
            }
            int sum = first.upper * second.lower + second.upper * first.lower;
            if (how == ROW) {
                value.set(sum, first.lower * second.lower);
            } else {
                value.set(first.upper * second.upper, sum);
            }
            return true;
        }
    }

    /** A WIRE of the KIND ONE; the other KINDS stand under it. */
    private static class OneWire {
        final int kind;
        final int first;
        final int second;

        OneWire(int kind, int first, int second) {
            this.kind = kind;
            this.first = first;
            this.second = second;
        }

        /** Writes OHMS, not in least form, and answers what the bodies that were asked bring to THE TRACE. */
        int measure(Fraction ohms) {
            ohms.set(1, 1);
            return 1;
        }

        final boolean touches(int knots) {
            return ((1 << first | 1 << second) & knots) != 0;
        }
    }

    private static class LongWire extends OneWire {
        private final int k;

        LongWire(int kind, int first, int second, int k) {
            super(kind, first, second);
            this.k = k;
        }

        int measure(Fraction ohms) {
            int asked = super.measure(ohms);
            ohms.upper *= k;
            return asked + 10;
        }
    }

    private static final class ThickWire extends LongWire {
        private final int m;

        ThickWire(int kind, int first, int second, int k, int m) {
            super(kind, first, second, k);
            this.m = m;
        }

        int measure(Fraction ohms) {
            int asked = super.measure(ohms);
            ohms.lower *= m;
            return asked + 100;
        }
    }

    /** THE NET. Sets of KNOTS are bits of an int. */
    private static final class Net {
        // One by OHMS times this is a whole number, since k is 1 .. 4.
        private static final long FLOW_SCALE = 12;

        private final OneWire[] wires = new OneWire[MOST_WIRES];
        private final long[] flows = new long[MOST_WIRES];
        private int size = 0;
        private final Fraction measured = new Fraction();

        private final int[] neighbours = new int[KNOTS];

        // A line for each KNOT but the ground (which has number 0), with what comes in as last column.
        private final long[][] lines = new long[KNOTS - 1][KNOTS];
        private final int[] lineOf = new int[KNOTS];
        private int lineCount = 0;

        int size() {
            return size;
        }

        /** The WIRE of that number, or null. */
        OneWire at(int number) {
            if (number < 0 || number >= size) {
                return null;
            }
            return wires[number];
        }

        /** Answers its number; there is room for it. */
        int add(OneWire wire) {
            wires[size] = wire;
            flows[size] = flowOf(wire);
            size++;
            return size - 1;
        }

        private long flowOf(OneWire wire) {
            wire.measure(measured);
            return measured.upper == 0 ? 0 : FLOW_SCALE * measured.lower / measured.upper;
        }

        /** Answers how many are left; there is one. */
        int removeLatest() {
            size--;
            wires[size] = null;
            return size;
        }

        int knotsWithWires() {
            int knots = 0;
            for (int w = 0; w < size; w++) {
                knots |= 1 << wires[w].first | 1 << wires[w].second;
            }
            return knots;
        }

        boolean hangTogether(int a, int b) {
            return (reachedFrom(a) >> b & 1) == 1;
        }

        private int reachedFrom(int knot) {
            int reached = 1 << knot;
            // Each round goes at least one KNOT farther.
            for (int round = 1; round < KNOTS; round++) {
                for (int w = 0; w < size; w++) {
                    if (wires[w].touches(reached)) {
                        reached |= 1 << wires[w].first | 1 << wires[w].second;
                    }
                }
            }
            return reached;
        }

        /** The SHARE BETWEEN two KNOTS that hang together. */
        void solveBetween(int a, int b, Fraction result) {
            if (a == b) {
                result.set(0, 1);
                return;
            }
            long whole = solve(a, b);
            result.set(FLOW_SCALE * numberOf(a), whole);
            result.reduce();
        }

        /** THROUGH a WIRE that there is, with 1 from a to b, two KNOTS that hang together. */
        void solveThrough(int number, int a, int b, Fraction result) {
            long whole = solve(a, b);
            long difference = numberOf(wires[number].first) - numberOf(wires[number].second);
            result.set(difference * flows[number], whole);
            result.reduce();
        }

        /** Solves for the numbers of KNOTS, that of b being 0; they are to be divided by the answer. */
        private long solve(int a, int b) {
            layLines(reachedFrom(a), b, false);
            int line = lineOf[a];
            if (line >= 0) {
                lines[line][lineCount] = 1;
            }
            return eliminate();
        }

        private long numberOf(int knot) {
            int line = lineOf[knot];
            // Without a line are the ground and KNOTS of WIRES that nothing goes through.
            return line < 0 ? 0 : lines[line][lineCount];
        }

        int countTrees() {
            int knots = knotsWithWires();
            if (knots == 0) {
                return 1;
            }
            layLines(knots, Integer.numberOfTrailingZeros(knots), true);
            // The trees are as many as the determinant of the lines says, if every WIRE is a ONE.
            return (int) eliminate();
        }

        /** Lays a line for each of these KNOTS but the ground: what goes out of it for each number. */
        private void layLines(int knots, int ground, boolean allOnes) {
            numberLines(knots & ~(1 << ground));
            for (int line = 0; line < lineCount; line++) {
                for (int column = 0; column <= lineCount; column++) {
                    lines[line][column] = 0;
                }
            }
            for (int w = 0; w < size; w++) {
                int first = lineOf[wires[w].first];
                int second = lineOf[wires[w].second];
                long flow = allOnes ? 1 : flows[w];
                layEnd(first, second, flow);
                layEnd(second, first, flow);
            }
        }

        private void numberLines(int knots) {
            lineCount = 0;
            for (int knot = 0; knot < KNOTS; knot++) {
                if ((knots >> knot & 1) == 1) {
                    lineOf[knot] = lineCount;
                    lineCount++;
                } else {
                    lineOf[knot] = -1;
                }
            }
        }

        private void layEnd(int line, int otherLine, long flow) {
            if (line < 0) {
                return;
            }
            lines[line][line] += flow;
            if (otherLine >= 0) {
                lines[line][otherLine] -= flow;
            }
        }

        /**
         * Bareiss' elimination: every division leaves no rest, and what is divided fits a long.
         * Answers the determinant; the last column then holds the numbers times it. No lines need be
         * swapped: a pivot is 0 only if KNOTS do not hang together, and then the determinant is 0.
         */
        private long eliminate() {
            long last = 1;
            for (int k = 0; k < lineCount; k++) {
                long pivot = lines[k][k];
                if (pivot == 0) {
                    return 0;
                }
                for (int line = 0; line < lineCount; line++) {
                    if (line != k) {
                        subtract(line, k, last);
                    }
                }
                last = pivot;
            }
            return last;
        }

        private void subtract(int line, int k, long last) {
            if (last == 0) {
                return;
            }
            long pivot = lines[k][k];
            long lead = lines[line][k];
            for (int column = k + 1; column <= lineCount; column++) {
                lines[line][column] = (pivot * lines[line][column] - lead * lines[k][column]) / last;
            }
        }

        /** Whether it FALLS TOGETHER between two KNOTS that hang together. */
        boolean fallsTogether(int a, int b) {
            layNeighbours(reachedFrom(a));
            int ends = 1 << a | 1 << b;
            // Each round that changes anything takes a KNOT away.
            for (int round = 0; round < KNOTS; round++) {
                for (int knot = 0; knot < KNOTS; knot++) {
                    if ((ends >> knot & 1) == 0 && Integer.bitCount(neighbours[knot]) <= 2) {
                        takeAway(knot);
                    }
                }
            }
            // What is left hangs together with a and b, so another WIRE would show at one of them.
            return neighbours[a] == 1 << b && neighbours[b] == 1 << a;
        }

        /** Bits hold WIRES between the same two KNOTS as one. */
        private void layNeighbours(int knots) {
            for (int knot = 0; knot < KNOTS; knot++) {
                neighbours[knot] = 0;
            }
            for (int w = 0; w < size; w++) {
                if (wires[w].touches(knots)) {
                    link(wires[w].first, wires[w].second);
                }
            }
        }

        private void link(int a, int b) {
            neighbours[a] |= 1 << b;
            neighbours[b] |= 1 << a;
        }

        /** Takes away a KNOT of two WIRES at most; two become one between the KNOTS behind it. */
        private void takeAway(int knot) {
            int others = neighbours[knot];
            neighbours[knot] = 0;
            for (int other = 0; other < KNOTS; other++) {
                neighbours[other] &= ~(1 << knot);
            }
            if (Integer.bitCount(others) == 2) {
                int low = Integer.numberOfTrailingZeros(others);
                int high = Integer.numberOfTrailingZeros(others & ~(1 << low));
                link(low, high);
            }
        }
    }

    /** THE SHOP. The hundreds of a CHOICE's number say ROW or SIDE, the rest its SORTS. */
    private static final class Shop {
        private static final int CHOICE_NUMBERS = 300;

        private final int[] sortOhms = new int[MOST_SORTS];
        private final int[] sortPrices = new int[MOST_SORTS];
        private int size = 0;
        private final Fraction tried = new Fraction();
        private final Fraction kept = new Fraction();

        int size() {
            return size;
        }

        /** Answers its number; there is room for it. */
        int add(int ohms, int price) {
            sortOhms[size] = ohms;
            sortPrices[size] = price;
            size++;
            return size - 1;
        }

        boolean has(int choice) {
            if (choice < 0 || choice >= CHOICE_NUMBERS) {
                return false;
            }
            if (isOneSort(choice)) {
                return choice < size;
            }
            return firstOf(choice) <= secondOf(choice) && secondOf(choice) < size;
        }

        private static boolean isOneSort(int choice) {
            return choice < 100;
        }

        private static int firstOf(int choice) {
            return isOneSort(choice) ? choice : choice % 100 / 10;
        }

        private static int secondOf(int choice) {
            return choice % 10;
        }

        int priceOf(int choice) {
            int price = sortPrices[firstOf(choice)];
            return isOneSort(choice) ? price : price + sortPrices[secondOf(choice)];
        }

        /** Writes the share of a CHOICE that there is, not in least form. */
        void measure(int choice, Fraction result) {
            int first = sortOhms[firstOf(choice)];
            if (isOneSort(choice)) {
                result.set(first, 1);
                return;
            }
            int second = sortOhms[secondOf(choice)];
            if (choice / 100 == ROW) {
                result.set(first + second, 1);
            } else {
                result.set(first * second, first + second);
            }
        }

        int nearestTo(int u, int d) {
            int best = NONE;
            // From the least number on, so that a later one must be better to be taken.
            for (int choice = 0; choice < CHOICE_NUMBERS; choice++) {
                if (!has(choice)) {
                    continue;
                }
                measure(choice, tried);
                if (best == NONE || isTriedBetter(choice, best, u, d)) {
                    best = choice;
                    kept.set(tried.upper, tried.lower);
                }
            }
            return best;
        }

        private boolean isTriedBetter(int choice, int best, int u, int d) {
            long triedGap = gap(tried, u, d) * kept.lower;
            long keptGap = gap(kept, u, d) * tried.lower;
            if (triedGap != keptGap) {
                return triedGap < keptGap;
            }
            return priceOf(choice) < priceOf(best);
        }

        /** The difference in size from u by d, times d and the share's lower number. */
        private static long gap(Fraction share, int u, int d) {
            return Math.abs(share.upper * d - u * share.lower);
        }
    }
}
