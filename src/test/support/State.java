/** States of an object in which calls are tried; make() gives a new object in that state each time. */
enum State {
    /** No calls yet. */
    NEW,
    /** WIRES 0 .. 3 of every KIND in two nets, KNOT 5 without WIRES, SORTS 0 .. 2, and a trace. */
    SOME,
    /** WIRES 0 .. 11 over all KNOTS, SORTS 0 .. 5, and a trace. */
    FULL;

    OhmNets make() {
        OhmNets x = new OhmNets();
        if (this == SOME) {
            makeSome(x);
        }
        if (this == FULL) {
            makeFull(x);
        }
        return x;
    }

    int wires() {
        return this == NEW ? 0 : this == SOME ? 4 : 12;
    }

    int sorts() {
        return this == NEW ? 0 : this == SOME ? 3 : 6;
    }

    private static void makeSome(OhmNets x) {
        x.many(4);
        x.wire(0, 0, 1, 0, 0);
        x.wire(1, 1, 2, 3, 0);
        x.wire(2, 2, 0, 2, 4);
        x.wire(0, 3, 4, 0, 0);
        // One that is gone again: it must not come back.
        x.wire(1, 4, 5, 4, 0);
        x.cut();
        x.sort(10, 5);
        x.sort(15, 5);
        x.sort(30, 1);
        x.ohms(1, 0);
        x.ohms(2, 1);
    }

    private static void makeFull(OhmNets x) {
        x.many(9);
        for (int w = 0; w < 12; w++) {
            x.wire(w % 3, w % 6, (w + 1 + w / 6) % 6, 1 + w % 4, 1 + w / 3);
        }
        for (int i = 0; i < 6; i++) {
            x.sort(100 - 17 * i, 50 - 9 * i);
        }
        x.ohms(0, 0);
        x.ohms(11, 1);
    }
}
