/** Promises 1, 8 to 15, 19 and 20 for THE NET: told answers, edges and refusals. */
public final class NetTest {
    private static final int[] WRONG_KNOTS = {-1, 6, 32, Integer.MIN_VALUE, Integer.MAX_VALUE};
    private static final int[] WRONG_PARTS = {-1, 2, Integer.MIN_VALUE, Integer.MAX_VALUE};

    public static void main(String[] args) {
        promise1New();
        promise8Refusals();
        promise8Full();
        promise9Cut();
        promise10Ohms();
        promise11About();
        promise12Between();
        promise13Through();
        promise14Trees();
        promise15Falls();
        promise19Count();
        promise20Trace();
        Due.end();
    }

    private static void promise1New() {
        OhmNets x = new OhmNets();
        Due.due("count(0)", x.count(0), 0);
        Due.due("count(2)", x.count(2), 0);
        Due.due("trace()", x.trace(), 0);
        Due.due("trees()", x.trees(), 1);
        Due.due("cut()", x.cut(), OhmNets.STATE);
        Due.due("about(0, 0)", x.about(0, 0), OhmNets.BAD);
        Due.due("ohms(0, 0)", x.ohms(0, 0), OhmNets.BAD);
        Due.due("between(0, 1, 0)", x.between(0, 1, 0), -2);
        Due.due("between(3, 3, 0)", x.between(3, 3, 0), 0);
        Due.due("between(3, 3, 1)", x.between(3, 3, 1), 1);
        Due.due("through(0, 0, 1, 0)", x.through(0, 0, 1, 0), Long.MIN_VALUE);
        Due.due("falls(0, 1)", x.falls(0, 1), OhmNets.STATE);
    }

    private static void promise8Refusals() {
        OhmNets x = new OhmNets();
        for (int kind : new int[] {-1, 3, Integer.MIN_VALUE, Integer.MAX_VALUE}) {
            Due.due("wire(" + kind + ", 0, 1, 1, 1)", x.wire(kind, 0, 1, 1, 1), OhmNets.BAD);
        }
        for (int kind = 0; kind <= 2; kind++) {
            for (int knot : WRONG_KNOTS) {
                Due.due("wire(" + kind + ", " + knot + ", 1, 1, 1)", x.wire(kind, knot, 1, 1, 1), OhmNets.BAD);
                Due.due("wire(" + kind + ", 1, " + knot + ", 1, 1)", x.wire(kind, 1, knot, 1, 1), OhmNets.BAD);
            }
            for (int knot = 0; knot <= 5; knot++) {
                Due.due("wire(" + kind + ", knot, knot, 1, 1)", x.wire(kind, knot, knot, 1, 1), OhmNets.BAD);
            }
        }
        for (int factor : new int[] {0, 5, -1, Integer.MIN_VALUE, Integer.MAX_VALUE}) {
            Due.due("wire(1, 0, 1, " + factor + ", 1)", x.wire(1, 0, 1, factor, 1), OhmNets.BAD);
            Due.due("wire(2, 0, 1, " + factor + ", 1)", x.wire(2, 0, 1, factor, 1), OhmNets.BAD);
            Due.due("wire(2, 0, 1, 1, " + factor + ")", x.wire(2, 0, 1, 1, factor), OhmNets.BAD);
        }
        Due.due("count(0)", x.count(0), 0);
        Due.due("wire(0, 0, 5, MIN, MAX)", x.wire(0, 0, 5, Integer.MIN_VALUE, Integer.MAX_VALUE), 0);
        Due.due("wire(1, 5, 0, 4, MIN)", x.wire(1, 5, 0, 4, Integer.MIN_VALUE), 1);
        Due.due("wire(1, 5, 0, 1, 9)", x.wire(1, 5, 0, 1, 9), 2);
    }

    private static void promise8Full() {
        OhmNets x = new OhmNets();
        for (int w = 0; w < 12; w++) {
            Due.due("wire " + w, x.wire(w % 3, w % 6, (w + 1) % 6, 1 + w % 4, 1 + w / 3), w);
        }
        Due.due("a thirteenth", x.wire(0, 0, 1, 1, 1), OhmNets.FULL);
        Due.due("BAD ahead of FULL: kind", x.wire(3, 0, 1, 1, 1), OhmNets.BAD);
        Due.due("BAD ahead of FULL: knots", x.wire(0, 2, 2, 1, 1), OhmNets.BAD);
        Due.due("BAD ahead of FULL: k", x.wire(1, 0, 1, 5, 1), OhmNets.BAD);
        Due.due("BAD ahead of FULL: m", x.wire(2, 0, 1, 1, 5), OhmNets.BAD);
        Due.due("count(0)", x.count(0), 12);
        Due.due("cut()", x.cut(), 11);
        Due.due("the twelfth again", x.wire(0, 4, 2, 1, 1), 11);
        Due.due("about(11, 1)", x.about(11, 1), 4);
        Due.due("about(11, 2)", x.about(11, 2), 2);
    }

    private static void promise9Cut() {
        OhmNets x = new OhmNets();
        x.wire(0, 0, 1, 0, 0);
        x.wire(1, 1, 2, 2, 0);
        x.wire(1, 0, 2, 3, 0);
        Due.due("between(0, 2, 0)", x.between(0, 2, 0), 3);
        Due.due("between(0, 2, 1)", x.between(0, 2, 1), 2);
        Due.due("cut()", x.cut(), 2);
        Due.due("about(2, 0)", x.about(2, 0), OhmNets.BAD);
        Due.due("ohms(2, 0)", x.ohms(2, 0), OhmNets.BAD);
        Due.due("through(2, 0, 1, 0)", x.through(2, 0, 1, 0), Long.MIN_VALUE);
        Due.due("between(0, 2, 0)", x.between(0, 2, 0), 3);
        Due.due("between(0, 2, 1)", x.between(0, 2, 1), 1);
        Due.due("cut()", x.cut(), 1);
        Due.due("between(0, 2, 0)", x.between(0, 2, 0), -2);
        Due.due("count(2)", x.count(2), 2);
        Due.due("cut()", x.cut(), 0);
        Due.due("cut()", x.cut(), OhmNets.STATE);
        Due.due("cut()", x.cut(), OhmNets.STATE);
        Due.due("count(0)", x.count(0), 0);
        Due.due("wire", x.wire(0, 3, 4, 0, 0), 0);
    }

    private static void promise10Ohms() {
        OhmNets x = new OhmNets();
        x.wire(0, 0, 1, 3, 2);
        Due.due("ONE, UPPER", x.ohms(0, 0), 1);
        Due.due("ONE, LOWER", x.ohms(0, 1), 1);
        for (int k = 1; k <= 4; k++) {
            OhmNets y = new OhmNets();
            y.wire(1, 0, 1, k, 3);
            Due.due("LONG " + k + ", UPPER", y.ohms(0, 0), k);
            Due.due("LONG " + k + ", LOWER", y.ohms(0, 1), 1);
            for (int m = 1; m <= 4; m++) {
                y.wire(2, 0, 1, k, m);
                Ratio due = Ratio.of(k, m);
                Due.due("THICK " + k + " by " + m + ", UPPER", y.ohms(m, 0), due.part(0));
                Due.due("THICK " + k + " by " + m + ", LOWER", y.ohms(m, 1), due.part(1));
            }
        }
        for (int wire : new int[] {-1, 1, 12, Integer.MIN_VALUE, Integer.MAX_VALUE}) {
            Due.due("ohms(" + wire + ", 0)", x.ohms(wire, 0), OhmNets.BAD);
        }
        for (int part : WRONG_PARTS) {
            Due.due("ohms(0, " + part + ")", x.ohms(0, part), OhmNets.BAD);
        }
    }

    private static void promise11About() {
        OhmNets x = new OhmNets();
        int number = 0;
        for (int kind = 0; kind <= 2; kind++) {
            for (int a = 0; a <= 3; a++) {
                int b = 5 - a;
                x.wire(kind, a, b, 1, 1);
                Due.due("KIND", x.about(number, 0), kind);
                Due.due("first KNOT", x.about(number, 1), a);
                Due.due("second KNOT", x.about(number, 2), b);
                number++;
            }
        }
        for (int wire : new int[] {-1, 12, Integer.MIN_VALUE, Integer.MAX_VALUE}) {
            Due.due("about(" + wire + ", 0)", x.about(wire, 0), OhmNets.BAD);
        }
        for (int what : new int[] {-1, 3, Integer.MIN_VALUE, Integer.MAX_VALUE}) {
            Due.due("about(0, " + what + ")", x.about(0, what), OhmNets.BAD);
        }
    }

    private static void promise12Between() {
        OhmNets x = new OhmNets();
        x.wire(1, 0, 1, 2, 0);
        x.wire(1, 1, 0, 4, 0);
        x.wire(2, 1, 2, 1, 3);
        x.wire(0, 3, 4, 0, 0);
        Due.due("two side by side, UPPER", x.between(0, 1, 0), 4);
        Due.due("two side by side, LOWER", x.between(1, 0, 1), 3);
        Due.due("and one in a row, UPPER", x.between(2, 0, 0), 5);
        Due.due("and one in a row, LOWER", x.between(2, 0, 1), 3);
        Due.due("the other side, UPPER", x.between(4, 3, 0), 1);
        Due.due("not together", x.between(0, 3, 0), -2);
        Due.due("not together, LOWER", x.between(4, 2, 1), -2);
        Due.due("a KNOT without WIRES", x.between(5, 0, 0), -2);
        Due.due("with itself, without WIRES, UPPER", x.between(5, 5, 0), 0);
        Due.due("with itself, without WIRES, LOWER", x.between(5, 5, 1), 1);
        for (int knot : WRONG_KNOTS) {
            Due.due("between(" + knot + ", 0, 0)", x.between(knot, 0, 0), -1);
            Due.due("between(0, " + knot + ", 0)", x.between(0, knot, 0), -1);
            Due.due("between(" + knot + ", itself, 0)", x.between(knot, knot, 0), -1);
        }
        for (int part : WRONG_PARTS) {
            Due.due("between(0, 1, " + part + ")", x.between(0, 1, part), -1);
            Due.due("between(1, 1, " + part + ")", x.between(1, 1, part), -1);
            Due.due("BAD ahead of STATE", x.between(0, 5, part), -1);
        }
    }

    private static void promise13Through() {
        OhmNets x = new OhmNets();
        x.wire(1, 0, 1, 2, 0);
        x.wire(0, 1, 0, 0, 0);
        x.wire(0, 1, 2, 0, 0);
        x.wire(0, 3, 4, 0, 0);
        checkThrough(x, 0, 0, 2, 1, 3);
        checkThrough(x, 1, 0, 2, -2, 3);
        checkThrough(x, 2, 0, 2, 1, 1);
        checkThrough(x, 3, 0, 2, 0, 1);
        checkThrough(x, 0, 2, 0, -1, 3);
        checkThrough(x, 1, 2, 0, 2, 3);
        checkThrough(x, 2, 2, 0, -1, 1);
        checkThrough(x, 2, 0, 1, 0, 1);
        checkThrough(x, 3, 4, 3, -1, 1);
        checkThrough(x, 0, 4, 3, 0, 1);
        for (int part = 0; part <= 1; part++) {
            Due.due("not together", x.through(0, 0, 3, part), Long.MIN_VALUE);
            Due.due("a KNOT without WIRES", x.through(0, 5, 0, part), Long.MIN_VALUE);
            Due.due("a is b", x.through(0, 1, 1, part), Long.MIN_VALUE);
        }
        for (int wire : new int[] {-1, 4, Integer.MIN_VALUE, Integer.MAX_VALUE}) {
            Due.due("through(" + wire + ", 0, 1, 0)", x.through(wire, 0, 1, 0), Long.MIN_VALUE);
        }
        for (int knot : WRONG_KNOTS) {
            Due.due("through(0, " + knot + ", 1, 0)", x.through(0, knot, 1, 0), Long.MIN_VALUE);
            Due.due("through(0, 1, " + knot + ", 0)", x.through(0, 1, knot, 0), Long.MIN_VALUE);
        }
        for (int part : WRONG_PARTS) {
            Due.due("through(0, 0, 1, " + part + ")", x.through(0, 0, 1, part), Long.MIN_VALUE);
        }
    }

    private static void checkThrough(OhmNets x, int wire, int a, int b, long upper, long lower) {
        String call = "through(" + wire + ", " + a + ", " + b + ", ";
        Due.due(call + "0)", x.through(wire, a, b, 0), upper);
        Due.due(call + "1)", x.through(wire, a, b, 1), lower);
    }

    private static void promise14Trees() {
        OhmNets x = new OhmNets();
        x.wire(1, 2, 4, 4, 0);
        Due.due("one WIRE", x.trees(), 1);
        x.wire(0, 4, 2, 0, 0);
        x.wire(2, 2, 4, 3, 2);
        Due.due("three side by side", x.trees(), 3);
        x.wire(0, 4, 5, 0, 0);
        Due.due("and one behind", x.trees(), 3);
        x.wire(0, 0, 1, 0, 0);
        Due.due("two nets", x.trees(), 0);
        x.wire(0, 1, 2, 0, 0);
        Due.due("one net", x.trees(), 3);
        Due.due("all six KNOTS of K4 and a pair", fullOfFour().trees(), 16);

        OhmNets octahedron = new OhmNets();
        for (int a = 0; a < 6; a++) {
            for (int b = a + 1; b < 6; b++) {
                if (a + b != 5) {
                    octahedron.wire(2, a, b, 1 + (a + b) % 4, 1 + a % 4);
                }
            }
        }
        Due.due("octahedron", octahedron.trees(), 384);
        Due.due("octahedron, WIRES", octahedron.count(0), 12);
    }

    private static OhmNets fullOfFour() {
        OhmNets x = new OhmNets();
        for (int a = 0; a < 4; a++) {
            for (int b = a + 1; b < 4; b++) {
                x.wire(0, a, b, 0, 0);
            }
        }
        return x;
    }

    private static void promise15Falls() {
        OhmNets x = fullOfFour();
        Due.due("K4 does not", x.falls(0, 1), 0);
        x.wire(0, 3, 4, 0, 0);
        Due.due("a K4 that hangs at an end stays", x.falls(3, 4), 0);
        Due.due("not from within", x.falls(0, 4), 0);

        OhmNets far = fullOfFour();
        far.wire(0, 4, 5, 0, 0);
        Due.due("a K4 apart is gone", far.falls(4, 5), 1);
        Due.due("STATE", far.falls(0, 5), OhmNets.STATE);

        OhmNets ring = new OhmNets();
        ring.wire(0, 0, 1, 0, 0);
        Due.due("one WIRE", ring.falls(1, 0), 1);
        ring.wire(0, 1, 2, 0, 0);
        ring.wire(0, 2, 1, 0, 0);
        ring.wire(0, 2, 3, 0, 0);
        ring.wire(0, 3, 4, 0, 0);
        ring.wire(0, 4, 2, 0, 0);
        ring.wire(0, 4, 5, 0, 0);
        Due.due("a ring at a side way falls into itself", ring.falls(0, 1), 1);
        Due.due("a ring on the way", ring.falls(0, 5), 1);
        Due.due("a ring at the end", ring.falls(0, 2), 1);

        for (int knot = 0; knot <= 5; knot++) {
            Due.due("falls(same)", ring.falls(knot, knot), OhmNets.BAD);
        }
        for (int knot : WRONG_KNOTS) {
            Due.due("falls(" + knot + ", 0)", ring.falls(knot, 0), OhmNets.BAD);
            Due.due("falls(0, " + knot + ")", ring.falls(0, knot), OhmNets.BAD);
        }
        Due.due("a KNOT without WIRES", new OhmNets().falls(2, 3), OhmNets.STATE);
    }

    private static void promise19Count() {
        OhmNets x = new OhmNets();
        x.wire(0, 0, 5, 0, 0);
        Due.due("count(0)", x.count(0), 1);
        Due.due("count(2)", x.count(2), 2);
        x.wire(0, 5, 0, 0, 0);
        x.wire(0, 3, 5, 0, 0);
        x.sort(1, 1);
        Due.due("count(0)", x.count(0), 3);
        Due.due("count(1)", x.count(1), 1);
        Due.due("count(2)", x.count(2), 3);
        x.wire(0, 1, 2, 0, 0);
        x.wire(0, 4, 2, 0, 0);
        Due.due("count(2)", x.count(2), 6);
        for (int what : new int[] {-1, 3, Integer.MIN_VALUE, Integer.MAX_VALUE}) {
            Due.due("count(" + what + ")", x.count(what), OhmNets.BAD);
        }
    }

    private static void promise20Trace() {
        OhmNets x = new OhmNets();
        x.wire(0, 0, 1, 0, 0);
        x.wire(1, 1, 2, 2, 0);
        x.wire(2, 2, 3, 2, 2);
        x.between(0, 3, 0);
        x.through(1, 0, 3, 0);
        x.about(2, 0);
        x.trees();
        x.falls(0, 3);
        Due.due("only ohms() is traced", x.trace(), 0);
        x.ohms(0, 0);
        Due.due("ONE", x.trace(), 1);
        x.ohms(1, 1);
        Due.due("LONG", x.trace(), 12);
        x.ohms(2, 0);
        Due.due("THICK", x.trace(), 123);
        x.ohms(3, 0);
        x.ohms(-1, 0);
        x.ohms(2, 2);
        x.ohms(2, -1);
        Due.due("BAD is not traced", x.trace(), 123);
        x.cut();
        Due.due("a WIRE that is gone leaves its trace", x.trace(), 123);
        for (int i = 0; i < 300; i++) {
            x.ohms(1, i % 2);
        }
        Due.due("many", x.trace(), 123 + 300 * 11);
        Due.due("each object has its own", new OhmNets().trace(), 0);
    }
}
