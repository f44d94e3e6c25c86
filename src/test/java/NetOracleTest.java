import java.util.ArrayList;
import java.util.List;

/** Promises 12 to 15: many nets beside slow solvers that go straight by the document's words. */
public final class NetOracleTest {
    private static final int KNOTS = 6;

    // The net as it is told, one wire a line: kind, first, second, k, m.
    private static int[][] wires;
    private static int[] firsts;
    private static int[] seconds;
    private static Ratio[] ohms;
    private static String told;

    private static OhmNets current;
    private static int callsLeft;

    public static void main(String[] args) {
        Numbers numbers = new Numbers(2026);
        for (int run = 0; run < 900; run++) {
            anyNet(numbers, numbers.from(1, 12), numbers.from(2, KNOTS), run % 4 == 0);
            checkNet(numbers);
        }
        int[][] factors = {{1, 4}, {4, 1}, {3, 4}, {4, 3}};
        for (int[] factor : factors) {
            largestNumbers(factor[0], factor[1]);
            checkNet(numbers);
        }
        Due.end();
    }

    private static void anyNet(Numbers numbers, int count, int knots, boolean allThick) {
        start(count);
        for (int w = 0; w < count; w++) {
            int first = numbers.below(knots);
            int second = (first + numbers.from(1, knots - 1)) % knots;
            int kind = allThick ? 2 : numbers.below(3);
            tell(w, new int[] {kind, first, second, numbers.from(1, 4), numbers.from(1, 4)});
        }
    }

    /** An octahedron has the most trees that twelve WIRES can have. */
    private static void largestNumbers(int k, int m) {
        start(12);
        int w = 0;
        for (int a = 0; a < KNOTS; a++) {
            for (int b = a + 1; b < KNOTS; b++) {
                if (a + b != 5) {
                    boolean other = w % 5 == 4;
                    tell(w, new int[] {2, a, b, other ? m : k, other ? k : m});
                    w++;
                }
            }
        }
    }

    private static void start(int count) {
        wires = new int[count][];
        firsts = new int[count];
        seconds = new int[count];
        ohms = new Ratio[count];
        told = "";
        callsLeft = 0;
    }

    private static void tell(int w, int[] wire) {
        int kind = wire[0];
        wires[w] = wire;
        firsts[w] = wire[1];
        seconds[w] = wire[2];
        ohms[w] = Ratio.of(kind >= 1 ? wire[3] : 1, kind == 2 ? wire[4] : 1);
        told += " " + firsts[w] + "-" + seconds[w] + ":" + ohms[w];
    }

    /** An object with this net that has calls left: one is promised to answer 512. */
    private static OhmNets x() {
        if (callsLeft == 0) {
            current = new OhmNets();
            for (int w = 0; w < wires.length; w++) {
                // A wire that is gone again must leave nothing behind.
                Due.due("wire to cut," + told, current.wire(1, w % KNOTS, (w + 1) % KNOTS, 3, 0), w);
                Due.due("cut," + told, current.cut(), w);
                int[] wire = wires[w];
                Due.due("wire," + told, current.wire(wire[0], wire[1], wire[2], wire[3], wire[4]), w);
            }
            callsLeft = 512 - 3 * wires.length;
        }
        callsLeft--;
        return current;
    }

    private static void checkNet(Numbers numbers) {
        for (int w = 0; w < ohms.length; w++) {
            Due.due("ohms UPPER," + told, x().ohms(w, 0), ohms[w].part(0));
            Due.due("ohms LOWER," + told, x().ohms(w, 1), ohms[w].part(1));
        }
        Due.due("trees," + told, x().trees(), countTrees());
        for (int a = 0; a < KNOTS; a++) {
            for (int b = 0; b < KNOTS; b++) {
                if (a == b) {
                    continue;
                }
                if (group()[a] != group()[b]) {
                    Due.due("between apart," + told, x().between(a, b, 0), -2);
                    Due.due("through apart," + told, x().through(0, a, b, 0), Long.MIN_VALUE);
                    Due.due("falls apart," + told, x().falls(a, b), OhmNets.STATE);
                } else {
                    checkPair(a, b);
                    String call = "falls(" + a + ", " + b + ")," + told;
                    Due.due(call, x().falls(a, b), fallsInAnyOrder(a, b, numbers) ? 1 : 0);
                }
            }
        }
    }

    private static void checkPair(int a, int b) {
        Ratio[] heights = heights(a, b);
        Ratio share = heights[a].minus(heights[b]);
        String pair = a + " to " + b + "," + told;
        Due.due("between UPPER " + pair, x().between(a, b, 0), share.part(0));
        Due.due("between LOWER " + pair, x().between(a, b, 1), share.part(1));
        for (int w = 0; w < ohms.length; w++) {
            Ratio flow = heights[firsts[w]].minus(heights[seconds[w]]).by(ohms[w]);
            Due.due("through UPPER " + w + " " + pair, x().through(w, a, b, 0), flow.part(0));
            Due.due("through LOWER " + w + " " + pair, x().through(w, a, b, 1), flow.part(1));
        }
    }

    /** For each KNOT the least KNOT that it hangs together with. */
    private static int[] group() {
        int[] group = {0, 1, 2, 3, 4, 5};
        for (int round = 0; round < KNOTS; round++) {
            for (int w = 0; w < ohms.length; w++) {
                int least = Math.min(group[firsts[w]], group[seconds[w]]);
                group[firsts[w]] = least;
                group[seconds[w]] = least;
            }
        }
        return group;
    }

    /** Numbers of KNOTS: 0 at b and apart, by plain elimination with exact fractions. */
    private static Ratio[] heights(int a, int b) {
        int[] group = group();
        Ratio[][] lines = new Ratio[KNOTS][KNOTS + 1];
        for (int i = 0; i < KNOTS; i++) {
            for (int j = 0; j <= KNOTS; j++) {
                lines[i][j] = Ratio.ZERO;
            }
            if (i == b || group[i] != group[b]) {
                lines[i][i] = Ratio.ONE;
                continue;
            }
            lines[i][KNOTS] = i == a ? Ratio.ONE : Ratio.ZERO;
            for (int w = 0; w < ohms.length; w++) {
                int other = firsts[w] == i ? seconds[w] : seconds[w] == i ? firsts[w] : -1;
                if (other >= 0) {
                    Ratio flow = Ratio.ONE.by(ohms[w]);
                    lines[i][i] = lines[i][i].plus(flow);
                    lines[i][other] = lines[i][other].minus(flow);
                }
            }
        }
        return solve(lines);
    }

    private static Ratio[] solve(Ratio[][] lines) {
        for (int k = 0; k < KNOTS; k++) {
            int swap = k;
            while (lines[swap][k].isZero()) {
                swap++;
            }
            Ratio[] line = lines[swap];
            lines[swap] = lines[k];
            lines[k] = line;
            for (int i = 0; i < KNOTS; i++) {
                if (i == k || lines[i][k].isZero()) {
                    continue;
                }
                Ratio times = lines[i][k].by(lines[k][k]);
                for (int j = 0; j <= KNOTS; j++) {
                    lines[i][j] = lines[i][j].minus(times.times(lines[k][j]));
                }
            }
        }
        Ratio[] heights = new Ratio[KNOTS];
        for (int i = 0; i < KNOTS; i++) {
            heights[i] = lines[i][KNOTS].by(lines[i][i]);
        }
        return heights;
    }

    /** Tries every choice of WIRES. */
    private static int countTrees() {
        int knots = 0;
        for (int w = 0; w < ohms.length; w++) {
            knots |= 1 << firsts[w] | 1 << seconds[w];
        }
        int trees = 0;
        for (int choice = 0; choice < 1 << ohms.length; choice++) {
            if (Integer.bitCount(choice) == Math.max(0, Integer.bitCount(knots) - 1) && hasNoRing(choice)) {
                trees++;
            }
        }
        return trees;
    }

    private static boolean hasNoRing(int choice) {
        int[] group = {0, 1, 2, 3, 4, 5};
        for (int w = 0; w < ohms.length; w++) {
            if ((choice >> w & 1) == 0) {
                continue;
            }
            int from = group[firsts[w]];
            int to = group[seconds[w]];
            if (from == to) {
                return false;
            }
            for (int knot = 0; knot < KNOTS; knot++) {
                if (group[knot] == from) {
                    group[knot] = to;
                }
            }
        }
        return true;
    }

    /** Does one step after the other, whichever the numbers say, on WIRES that are kept one by one. */
    private static boolean fallsInAnyOrder(int a, int b, Numbers numbers) {
        int[] group = group();
        List<int[]> left = new ArrayList<>();
        for (int w = 0; w < ohms.length; w++) {
            if (group[firsts[w]] == group[a]) {
                left.add(new int[] {firsts[w], seconds[w]});
            }
        }
        while (true) {
            List<int[]> steps = steps(left, a, b);
            if (steps.isEmpty()) {
                break;
            }
            int[] step = steps.get(numbers.below(steps.size()));
            doStep(left, step);
        }
        return left.size() == 1 && (left.get(0)[0] == a && left.get(0)[1] == b
            || left.get(0)[0] == b && left.get(0)[1] == a);
    }

    /** A step: the lower WIRE, the higher WIRE or -1, and the KNOT that a row of both goes through or -1. */
    private static List<int[]> steps(List<int[]> left, int a, int b) {
        List<int[]> steps = new ArrayList<>();
        int[] ends = new int[KNOTS];
        for (int i = 0; i < left.size(); i++) {
            int[] one = left.get(i);
            ends[one[0]]++;
            ends[one[1]]++;
            if (one[0] == one[1]) {
                steps.add(new int[] {i, -1, -1});
            }
            for (int k = i + 1; k < left.size(); k++) {
                int[] other = left.get(k);
                if (one[0] == other[0] && one[1] == other[1] || one[0] == other[1] && one[1] == other[0]) {
                    steps.add(new int[] {i, -1, -1});
                }
            }
        }
        for (int knot = 0; knot < KNOTS; knot++) {
            if (knot == a || knot == b) {
                continue;
            }
            List<Integer> at = new ArrayList<>();
            for (int i = 0; i < left.size(); i++) {
                if (left.get(i)[0] == knot || left.get(i)[1] == knot) {
                    at.add(i);
                }
            }
            if (ends[knot] == 1) {
                steps.add(new int[] {at.get(0), -1, -1});
            }
            if (ends[knot] == 2 && at.size() == 2) {
                steps.add(new int[] {at.get(0), at.get(1), knot});
            }
        }
        return steps;
    }

    private static void doStep(List<int[]> left, int[] step) {
        if (step[1] < 0) {
            left.remove(step[0]);
            return;
        }
        int[] higher = left.remove(step[1]);
        int[] lower = left.remove(step[0]);
        int knot = step[2];
        left.add(new int[] {lower[0] == knot ? lower[1] : lower[0], higher[0] == knot ? higher[1] : higher[0]});
    }
}
