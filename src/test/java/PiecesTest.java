/** Promises 1 to 4: a new object, shape, via, pad. */
public final class PiecesTest {
    private static final Check check = new Check();
    private static final long[] WRONG_PLACES = {-100_001, 100_001, Long.MIN_VALUE, Long.MAX_VALUE, 1L << 32, -(1L << 32)};
    private static final long[] WRONG_SIZES = {0, -1, 100_001, Long.MIN_VALUE, Long.MAX_VALUE, (1L << 32) + 1};

    public static void main(String[] args) {
        newObject();
        layers();
        shapes();
        vias();
        pads();
        numbers();
        full();
        check.end();
    }

    private static void newObject() {
        CopperNets x = new CopperNets(3);
        check.due("1: run", x.run(), 0);
        check.due("1: shorts", x.shorts(), 0);
        check.due("1: unnamed(0)", x.unnamed(0), -1);
        check.due("1: unreached(0)", x.unreached(0), -1);
        check.due("1: same", x.same(), true);
        check.due("1: exact", x.exact(), true);
        check.index("1: netOf(0)", () -> x.netOf(0));
        check.index("1: drop(0)", () -> x.drop(0));
        for (int net = 0; net < 20; net++) {
            check.due("1: opens", x.opens(net), 0);
        }
        for (int pin = 0; pin < 40; pin++) {
            check.due("1: plans none", x.plans(pin, -1), false);
        }
    }

    private static void layers() {
        int[] told = {Integer.MIN_VALUE, -1, 0, 1, 2, 7, 8, 9, Integer.MAX_VALUE};
        int[] due = {1, 1, 1, 1, 2, 7, 8, 8, 8};
        for (int i = 0; i < told.length; i++) {
            CopperNets x = new CopperNets(told[i]);
            int last = due[i] - 1;
            String of = "1: layers " + told[i];
            check.due(of + " last shape", x.shape(last, 0, 0, 1, 1), 0);
            check.due(of + " via through all", x.via(0, last, 0, 0, 1), 1);
            check.due(of + " last pad", x.pad(0, last, 0, 0, 1), 2);
            check.index(of + " shape", () -> x.shape(last + 1, 0, 0, 1, 1));
            check.index(of + " via", () -> x.via(0, last + 1, 0, 0, 1));
            check.index(of + " pad", () -> x.pad(0, last + 1, 0, 0, 1));
        }
    }

    private static void shapes() {
        CopperNets x = new CopperNets(2);
        for (int layer : new int[] {-1, 2, Integer.MIN_VALUE, Integer.MAX_VALUE}) {
            check.index("2: layer " + layer, () -> x.shape(layer, 0, 0, 1, 1));
            check.index("2: layer and place", () -> x.shape(layer, 100_001, 0, 0, 1));
        }
        for (long at : WRONG_PLACES) {
            check.argument("2: x " + at, () -> x.shape(0, at, 0, 1, 1));
            check.argument("2: y " + at, () -> x.shape(0, 0, at, 1, 1));
        }
        for (long size : WRONG_SIZES) {
            check.argument("2: w " + size, () -> x.shape(0, 0, 0, size, 1));
            check.argument("2: h " + size, () -> x.shape(0, 0, 0, 1, size));
        }
        check.due("2: nothing came", x.run(), 0);
        check.due("2: highest place", x.shape(1, 100_000, 100_000, 100_000, 100_000), 0);
        check.due("2: lowest place", x.shape(0, -100_000, -100_000, 1, 1), 1);
    }

    private static void vias() {
        CopperNets x = new CopperNets(3);
        for (int layer : new int[] {-1, 3, Integer.MIN_VALUE, Integer.MAX_VALUE}) {
            check.index("3: from " + layer, () -> x.via(layer, 1, 0, 0, 1));
            check.index("3: to " + layer, () -> x.via(1, layer, 0, 0, 1));
            check.index("3: layer and radius", () -> x.via(1, layer, 0, 0, 0));
        }
        check.argument("3: from above to", () -> x.via(2, 1, 0, 0, 1));
        for (long at : WRONG_PLACES) {
            check.argument("3: x " + at, () -> x.via(0, 1, at, 0, 1));
            check.argument("3: y " + at, () -> x.via(0, 1, 0, at, 1));
        }
        for (long size : WRONG_SIZES) {
            check.argument("3: r " + size, () -> x.via(0, 1, 0, 0, size));
        }
        check.due("3: nothing came", x.run(), 0);
        check.due("3: one layer", x.via(1, 1, 100_000, -100_000, 100_000), 0);
        check.due("3: all layers", x.via(0, 2, -100_000, 100_000, 1), 1);
    }

    private static void pads() {
        CopperNets x = new CopperNets(2);
        for (int pin : new int[] {-1, 40, Integer.MIN_VALUE, Integer.MAX_VALUE}) {
            check.index("4: pin " + pin, () -> x.pad(pin, 0, 0, 0, 1));
            check.index("4: pin and radius", () -> x.pad(pin, 0, 0, 0, 0));
        }
        for (int layer : new int[] {-1, 2, Integer.MIN_VALUE, Integer.MAX_VALUE}) {
            check.index("4: layer " + layer, () -> x.pad(0, layer, 0, 0, 1));
            check.index("4: layer and place", () -> x.pad(0, layer, 100_001, 0, 1));
        }
        for (long at : WRONG_PLACES) {
            check.argument("4: x " + at, () -> x.pad(0, 0, at, 0, 1));
            check.argument("4: y " + at, () -> x.pad(0, 0, 0, at, 1));
        }
        for (long size : WRONG_SIZES) {
            check.argument("4: r " + size, () -> x.pad(0, 0, 0, 0, size));
        }
        check.due("4: nothing came", x.run(), 0);
        check.due("4: pin 0", x.pad(0, 0, 100_000, -100_000, 100_000), 0);
        check.due("4: pin 39", x.pad(39, 1, -100_000, 100_000, 1), 1);
        check.due("4: pin 39 again", x.pad(39, 1, 5, 5, 1), 2);
    }

    private static void numbers() {
        CopperNets x = new CopperNets(1);
        check.due("2: first", x.shape(0, 0, 0, 1, 1), 0);
        check.due("3: second", x.via(0, 0, 50, 0, 1), 1);
        check.due("14: drop", x.drop(1), true);
        check.due("4: a dropped number is not used again", x.pad(0, 0, 100, 0, 1), 2);
        check.argument("2: refused", () -> x.shape(0, 0, 0, 0, 0));
        check.due("2: a refused one takes no number", x.shape(0, 0, 0, 1, 1), 3);
    }

    private static void full() {
        CopperNets x = new CopperNets(1);
        for (int i = 0; i < 60; i++) {
            check.due("2: number", x.shape(0, 10 * i, 0, 1, 1), i);
        }
        check.due("7: netOf(59)", x.netOf(59), 59);
        for (int round = 0; round < 2; round++) {
            check.due("2: full", x.shape(0, 0, 0, 1, 1), -1);
            check.due("3: full", x.via(0, 0, 0, 0, 1), -1);
            check.due("4: full", x.pad(0, 0, 0, 0, 1), -1);
            check.index("2: full, no layer", () -> x.shape(1, 0, 0, 1, 1));
            check.argument("3: full, no radius", () -> x.via(0, 0, 0, 0, 0));
            check.index("4: full, no pin", () -> x.pad(40, 0, 0, 0, 1));
            check.due("6: run", x.run(), 60 - round);
            check.index("7: netOf(60)", () -> x.netOf(60));
            // A dropped piece makes no room: its number is not used again.
            x.drop(7);
        }
        for (int pin = 0; pin < 40; pin++) {
            x.plans(pin, pin % 20);
        }
        everyQuestion("no pads", x, 0, 59, 40);
        CopperNets pads = new CopperNets(8);
        for (int i = 0; i < 60; i++) {
            pads.plans(i % 40, 0);
            pads.pad(i % 40, i % 8, 10 * i, 0, 1);
        }
        everyQuestion("pads of one net", pads, 59, 0, 0);
    }

    /** With 60 pieces every row is full: no question may look past its end. */
    private static void everyQuestion(String of, CopperNets x, int opens, int unnamed, int unreached) {
        check.due(of + ": 8", x.opens(0), opens);
        check.due(of + ": 13", x.line(0, opens, 0), -1);
        check.index(of + ": 9", () -> x.open(0, opens, 0));
        check.due(of + ": 10", x.shorts(), 0);
        check.index(of + ": 11", () -> x.short2(0, 0));
        check.due(of + ": 12", x.unnamed(unnamed), -1);
        check.due(of + ": 12, the last", x.unnamed(unnamed - 1) == -1, unnamed == 0);
        check.due(of + ": 15", x.same(), true);
        check.due(of + ": 16", x.unreached(unreached), -1);
        check.due(of + ": 16, the last", x.unreached(unreached - 1), unreached - 1);
        check.due(of + ": 17", x.exact(), false);
    }
}
