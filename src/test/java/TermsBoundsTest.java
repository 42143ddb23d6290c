/** Each sentence of the document's terms that names a bound, with the values at it and beyond it. */
public final class TermsBoundsTest {
    private static final Check check = new Check();

    public static void main(String[] args) {
        atMost512Calls();
        theConstant();
        layersAreOneToEight();
        piecesAreAtMost60();
        numbersAreNotUsedAgain();
        shapesGoFromTheirPlaceOn();
        viasAreOnLayersFromTo();
        pinsMayHaveSeveralPads();
        places();
        sizes();
        piecesAreThereUntilDropped();
        bordersBelongToShapes();
        bordersBelongToDiscs();
        bordersBelongToShapesAndDiscs();
        largestPiecesTouch();
        piecesTouchOnOneLayer();
        andSoOn();
        numberedByLowestPieces();
        planIsOfNoneAtFirst();
        copperNetsHaveTheNetsOfTheirPads();
        distanceIsOfPlaces();
        airlinesByTheSquare();
        thenByTheLowerPiece();
        thenByTheOtherPiece();
        notJoinedByThoseAhead();
        onlyInDifferentCopperNets();
        check.end();
    }

    private static void atMost512Calls() {
        check.sentence("An object is used for at most 512 calls");
        CopperNets x = new CopperNets(8);
        int calls = 0;
        for (int i = 0; i < 60; i++) {
            check.due("pad", x.pad(i % 40, 0, 3L * i, 0, 1), i);
            calls++;
        }
        for (int pin = 0; pin < 40; pin++) {
            check.due("plans", x.plans(pin, pin % 20), true);
            calls++;
        }
        while (calls < 506) {
            // Of net 19 are the pads 19, 39 and 59.
            check.due("call " + calls, calls % 2 == 0 ? x.open(19, 1, 2) : x.opens(19), calls % 2 == 0 ? 3600 : 2);
            calls++;
        }
        check.due("507th", x.exact(), false);
        check.due("508th", x.drop(59), true);
        check.due("509th", x.same(), true);
        check.due("510th", x.opens(19), 1);
        check.due("511th", x.pad(0, 0, 0, 0, 1), CopperNets.NONE);
        check.due("512th", x.run(), 59);
    }

    private static void theConstant() {
        check.sentence("NONE = -1");
        check.due("NONE", CopperNets.NONE, -1);
    }

    private static void layersAreOneToEight() {
        check.sentence("LAYERS are 0 .. layers - 1, 1 to 8 (what is told below is 1, above 8)");
        for (int layers = 1; layers <= 8; layers++) {
            layersAre(layers, layers);
        }
        for (int below : new int[] {0, -1, -2, -8, Integer.MIN_VALUE}) {
            layersAre(below, 1);
        }
        for (int above : new int[] {9, 10, 16, 256, Integer.MAX_VALUE}) {
            layersAre(above, 8);
        }
    }

    private static void layersAre(int told, int due) {
        CopperNets x = new CopperNets(told);
        String of = "layers " + told;
        for (int layer = 0; layer < due; layer++) {
            int l = layer;
            check.due(of + ": shape on " + l, Check.outcome(() -> x.shape(l, 0, 0, 1, 1)), 3 * l);
            check.due(of + ": pad on " + l, Check.outcome(() -> x.pad(0, l, 50, 0, 1)), 3 * l + 1);
            check.due(of + ": via on " + l, Check.outcome(() -> x.via(l, l, 90, 0, 1)), 3 * l + 2);
        }
        for (int layer : new int[] {-1, due, due + 1, Integer.MIN_VALUE, Integer.MAX_VALUE}) {
            check.index(of + ": shape on " + layer, () -> x.shape(layer, 0, 0, 1, 1));
            check.index(of + ": pad on " + layer, () -> x.pad(0, layer, 0, 0, 1));
            check.index(of + ": via from " + layer, () -> x.via(layer, due - 1, 0, 0, 1));
            check.index(of + ": via to " + layer, () -> x.via(0, layer, 0, 0, 1));
        }
        check.due(of + ": as many copper nets as pieces", x.run(), 3 * due);
    }

    private static void piecesAreAtMost60() {
        check.sentence("PIECES, at most 60");
        for (int kind = 0; kind < 3; kind++) {
            CopperNets x = new CopperNets(1);
            for (int i = 0; i < 60; i++) {
                check.due("piece " + i + " of kind " + kind, addAnywhere(x, kind, i), i);
            }
            String before = Board.answers(x);
            for (int last = 0; last < 3; last++) {
                check.due("piece 60 of kind " + last, addAnywhere(x, last, 60), -1);
            }
            check.due("the full object after a refused piece", Board.answers(x), before);
        }
        CopperNets mixed = new CopperNets(1);
        for (int i = 0; i < 60; i++) {
            check.due("mixed piece " + i, addAnywhere(mixed, i % 3, i), i);
        }
        check.due("mixed piece 60", addAnywhere(mixed, 0, 60), -1);
        check.due("all 60 are there", mixed.run(), 60);
    }

    private static int addAnywhere(CopperNets x, int kind, int i) {
        if (kind == 0) {
            return x.shape(0, 10L * i, 0, 1, 1);
        }
        return kind == 1 ? x.via(0, 0, 10L * i, 0, 1) : x.pad(i % 40, 0, 10L * i, 0, 1);
    }

    private static void numbersAreNotUsedAgain() {
        check.sentence("numbered from 0 as they come (numbers are not used again)");
        CopperNets x = new CopperNets(1);
        for (int i = 0; i < 60; i++) {
            check.due("piece " + i, addAnywhere(x, i % 3, i), i);
            check.due("drop(" + i + ")", x.drop(i), true);
        }
        for (int kind = 0; kind < 3; kind++) {
            check.due("all 60 numbers are used, kind " + kind, addAnywhere(x, kind, 0), -1);
        }
        check.due("none is there", x.run(), 0);
        check.index("no piece 60", () -> x.netOf(60));
    }

    private static void oneNet(String what, CopperNets x, boolean due) {
        check.due(what + ": run", x.run(), due ? 1 : 2);
        check.due(what + ": netOf(1)", x.netOf(1), due ? 0 : 1);
    }

    private static void shapes(String what, long[] a, long[] b, boolean due) {
        CopperNets x = new CopperNets(1);
        x.shape(0, a[0], a[1], a[2], a[3]);
        x.shape(0, b[0], b[1], b[2], b[3]);
        oneNet(what, x, due);
        CopperNets y = new CopperNets(1);
        y.shape(0, b[0], b[1], b[2], b[3]);
        y.shape(0, a[0], a[1], a[2], a[3]);
        oneNet(what + ", turned", y, due);
    }

    private static void shapesGoFromTheirPlaceOn() {
        check.sentence("SHAPES are rectangles on a layer, from x, y on, w by h");
        long[] middle = {10, 20, 5, 7};
        long[][] inside = {{15, 27}, {15, 20}, {10, 27}, {10, 20}, {9, 19}, {9, 27}, {15, 19}, {12, 23}};
        for (long[] at : inside) {
            shapes("1 by 1 at " + at[0] + ", " + at[1], middle, new long[] {at[0], at[1], 1, 1}, true);
        }
        long[][] outside = {{16, 27}, {15, 28}, {8, 20}, {9, 18}, {16, 20}, {10, 28}, {8, 19}, {10, 18}};
        for (long[] at : outside) {
            shapes("1 by 1 at " + at[0] + ", " + at[1], middle, new long[] {at[0], at[1], 1, 1}, false);
        }
    }

    private static void viasAreOnLayersFromTo() {
        check.sentence("VIAS are discs on layers from .. to");
        for (int from = 0; from < 8; from++) {
            for (int to = from; to < 8; to++) {
                CopperNets x = new CopperNets(8);
                x.via(from, to, 0, 0, 5);
                for (int layer = 0; layer < 8; layer++) {
                    x.shape(layer, 0, 0, 1, 1);
                    boolean on = from <= layer && layer <= to;
                    String via = "via from " + from + " to " + to + ", layer " + layer;
                    check.due(via, x.netOf(layer + 1) == 0, on);
                }
            }
        }
    }

    private static void pinsMayHaveSeveralPads() {
        check.sentence("PADS are discs on a layer, of a PIN 0 .. 39 (a PIN may have several)");
        for (int pin : new int[] {0, 39}) {
            CopperNets x = new CopperNets(1);
            x.plans(pin, 0);
            for (int i = 0; i < 60; i++) {
                check.due("pad " + i + " of pin " + pin, x.pad(pin, 0, 10L * i, 0, 1), i);
            }
            check.due("airlines among the pads of one pin", x.opens(0), 59);
            for (int i = 0; i < 60; i++) {
                check.due("reached while a pad is left", x.unreached(0), -1);
                x.drop(i);
            }
            check.due("no pad is left", x.unreached(0), pin);
        }
        for (int pin : new int[] {-1, 40, Integer.MIN_VALUE, Integer.MAX_VALUE}) {
            Board.refused(check, "pad of pin " + pin, Check.INDEX, x -> x.pad(pin, 0, 0, 0, 1));
        }
    }

    private static void places() {
        check.sentence("Places are -100,000 .. 100,000");
        for (long at : new long[] {-100_000, -99_999, -1, 0, 1, 99_999, 100_000}) {
            for (int kind = 0; kind < 3; kind++) {
                check.due("x " + at + " of kind " + kind, Check.outcome(add(kind, at, 0, 1, 1)), 0);
                check.due("y " + at + " of kind " + kind, Check.outcome(add(kind, 0, at, 1, 1)), 0);
            }
        }
        // The last ones would be good if only 32 bits of them were looked at.
        long[] wrong = {-100_001, 100_001, Long.MIN_VALUE, Long.MAX_VALUE, Integer.MIN_VALUE, Integer.MAX_VALUE,
            1L << 32, -1L << 32, (1L << 32) + 100_000, (-1L << 32) - 100_000};
        for (long at : wrong) {
            Board.refused(check, "shape, x " + at, Check.ARGUMENT, x -> x.shape(0, at, 0, 1, 1));
            Board.refused(check, "shape, y " + at, Check.ARGUMENT, x -> x.shape(0, 0, at, 1, 1));
            Board.refused(check, "via, x " + at, Check.ARGUMENT, x -> x.via(0, 0, at, 0, 1));
            Board.refused(check, "via, y " + at, Check.ARGUMENT, x -> x.via(0, 0, 0, at, 1));
            Board.refused(check, "pad, x " + at, Check.ARGUMENT, x -> x.pad(0, 0, at, 0, 1));
            Board.refused(check, "pad, y " + at, Check.ARGUMENT, x -> x.pad(0, 0, 0, at, 1));
        }
    }

    private static Check.Call add(int kind, long x, long y, long w, long h) {
        CopperNets made = new CopperNets(1);
        if (kind == 0) {
            return () -> made.shape(0, x, y, w, h);
        }
        return kind == 1 ? () -> made.via(0, 0, x, y, w) : () -> made.pad(0, 0, x, y, w);
    }

    private static void sizes() {
        check.sentence("w, h and radii 1 .. 100,000");
        for (long size : new long[] {1, 2, 99_999, 100_000}) {
            for (int kind = 0; kind < 3; kind++) {
                check.due("w or r " + size + " of kind " + kind, Check.outcome(add(kind, 0, 0, size, 1)), 0);
            }
            check.due("h " + size, Check.outcome(add(0, 0, 0, 1, size)), 0);
        }
        long[] wrong = {0, -1, -100_000, 100_001, Long.MIN_VALUE, Long.MAX_VALUE, Integer.MIN_VALUE,
            Integer.MAX_VALUE, (1L << 32) + 1, (-1L << 32) + 1};
        for (long size : wrong) {
            Board.refused(check, "w " + size, Check.ARGUMENT, x -> x.shape(0, 0, 0, size, 1));
            Board.refused(check, "h " + size, Check.ARGUMENT, x -> x.shape(0, 0, 0, 1, size));
            Board.refused(check, "r " + size + " of a via", Check.ARGUMENT, x -> x.via(0, 0, 0, 0, size));
            Board.refused(check, "r " + size + " of a pad", Check.ARGUMENT, x -> x.pad(0, 0, 0, 0, size));
        }
    }

    private static void piecesAreThereUntilDropped() {
        check.sentence("A PIECE is THERE until it is dropped");
        CopperNets x = new CopperNets(1);
        x.shape(0, 0, 0, 1, 1);
        x.pad(0, 0, 1, 1, 1);
        x.via(0, 0, 2, 1, 1);
        check.due("all there", x.netOf(0) + " " + x.netOf(1) + " " + x.netOf(2), "0 0 0");
        x.drop(1);
        check.due("one dropped", x.netOf(0) + " " + x.netOf(1) + " " + x.netOf(2), "0 -1 0");
        x.drop(0);
        x.drop(2);
        check.due("all dropped", x.netOf(0) + " " + x.netOf(1) + " " + x.netOf(2), "-1 -1 -1");
        x.pad(0, 0, 1, 1, 1);
        check.due("what comes later TOUCHES none of them", x.run() + " " + x.netOf(3), "1 0");
    }

    private static void bordersBelongToShapes() {
        check.sentence("have a point in common (borders belong to them): two shapes");
        long[] middle = {-5, -5, 10, 10};
        for (int turn = 0; turn < 2; turn++) {
            shapes("sides", middle, turned(turn, 5, 0, 3, 2), true);
            shapes("sides apart by 1", middle, turned(turn, 6, 0, 3, 2), false);
            shapes("other sides", middle, turned(turn, -8, 0, 3, 2), true);
            shapes("other sides apart by 1", middle, turned(turn, -9, 0, 3, 2), false);
            shapes("corners", middle, turned(turn, 5, 5, 3, 3), true);
            shapes("corners apart by 1", middle, turned(turn, 6, 5, 3, 3), false);
            shapes("other corners", middle, turned(turn, 5, -8, 3, 3), true);
            shapes("other corners apart by 1", middle, turned(turn, 5, -9, 3, 3), false);
        }
        shapes("one within the other", middle, new long[] {-1, -1, 1, 1}, true);
        shapes("one on the other", middle, middle, true);
        shapes("a cross", middle, new long[] {-50, 0, 100, 1}, true);
    }

    private static long[] turned(int turn, long x, long y, long w, long h) {
        return turn == 0 ? new long[] {x, y, w, h} : new long[] {y, x, h, w};
    }

    private static void discs(String what, long[] a, long[] b, boolean due) {
        CopperNets x = new CopperNets(1);
        x.pad(0, 0, a[0], a[1], a[2]);
        x.pad(1, 0, b[0], b[1], b[2]);
        oneNet(what, x, due);
        CopperNets y = new CopperNets(1);
        y.via(0, 0, b[0], b[1], b[2]);
        y.pad(0, 0, a[0], a[1], a[2]);
        oneNet(what + ", turned", y, due);
    }

    private static void bordersBelongToDiscs() {
        check.sentence("have a point in common (borders belong to them): two discs");
        long[] middle = {0, 0, 6};
        for (int sign = -1; sign < 2; sign += 2) {
            discs("along x", middle, new long[] {sign * 10, 0, 4}, true);
            discs("along x, apart by 1", middle, new long[] {sign * 11, 0, 4}, false);
            discs("along y", middle, new long[] {0, sign * 10, 4}, true);
            discs("along y, apart by 1", middle, new long[] {0, sign * 11, 4}, false);
            discs("aslant", middle, new long[] {sign * 6, 8, 4}, true);
            discs("aslant, least apart", middle, new long[] {sign * 6, 8, 3}, false);
            // 5 * 5 + 9 * 9 is 106, 10 * 10 is less, 11 * 11 more.
            discs("aslant, no whole distance, apart", middle, new long[] {sign * 5, 9, 4}, false);
            discs("aslant, no whole distance, over", middle, new long[] {sign * 5, 9, 5}, true);
        }
        discs("one within the other", middle, new long[] {1, 1, 1}, true);
        discs("one on the other", middle, middle, true);
        discs("smallest", new long[] {0, 0, 1}, new long[] {2, 0, 1}, true);
        discs("smallest, aslant", new long[] {0, 0, 1}, new long[] {2, 1, 1}, false);
    }

    private static void shapeAndDisc(String what, long[] shape, long[] disc, boolean due) {
        CopperNets x = new CopperNets(1);
        x.shape(0, shape[0], shape[1], shape[2], shape[3]);
        x.pad(0, 0, disc[0], disc[1], disc[2]);
        oneNet(what, x, due);
        CopperNets y = new CopperNets(1);
        y.via(0, 0, disc[0], disc[1], disc[2]);
        y.shape(0, shape[0], shape[1], shape[2], shape[3]);
        oneNet(what + ", turned", y, due);
    }

    private static void bordersBelongToShapesAndDiscs() {
        check.sentence("have a point in common (borders belong to them): a shape and a disc");
        long[] middle = {-10, -10, 20, 20};
        for (int sign = -1; sign < 2; sign += 2) {
            shapeAndDisc("side in x", middle, new long[] {sign * 15, 3, 5}, true);
            shapeAndDisc("side in x, apart by 1", middle, new long[] {sign * 16, 3, 5}, false);
            shapeAndDisc("side in y", middle, new long[] {3, sign * 15, 5}, true);
            shapeAndDisc("side in y, apart by 1", middle, new long[] {3, sign * 16, 5}, false);
            shapeAndDisc("at a side's end", middle, new long[] {sign * 15, 10, 5}, true);
            for (int other = -1; other < 2; other += 2) {
                shapeAndDisc("corner", middle, new long[] {sign * 13, other * 14, 5}, true);
                shapeAndDisc("corner, least apart", middle, new long[] {sign * 13, other * 14, 4}, false);
                shapeAndDisc("by the corner", middle, new long[] {sign * 14, other * 14, 5}, false);
            }
        }
        shapeAndDisc("the disc within", middle, new long[] {0, 0, 1}, true);
        shapeAndDisc("the shape within", middle, new long[] {0, 0, 1000}, true);
        shapeAndDisc("the disc's place on the border", middle, new long[] {10, 10, 1}, true);
    }

    private static void largestPiecesTouch() {
        check.sentence("have a point in common (borders belong to them): the largest and farthest pieces");
        discs("two discs", new long[] {-100_000, 0, 100_000}, new long[] {100_000, 0, 100_000}, true);
        discs("two discs, 1 less", new long[] {-100_000, 0, 100_000}, new long[] {100_000, 0, 99_999}, false);
        discs("two discs, 1 aside", new long[] {-100_000, 0, 100_000}, new long[] {100_000, 1, 100_000}, false);
        discs("farthest", new long[] {-100_000, -100_000, 100_000}, new long[] {100_000, 100_000, 100_000}, false);
        shapes("two shapes", new long[] {-100_000, -100_000, 100_000, 100_000}, new long[] {0, 0, 1, 1}, true);
        shapes("two shapes, 1 less", new long[] {-100_000, -100_000, 99_999, 100_000}, new long[] {0, 0, 1, 1}, false);
        shapes("beyond the places", new long[] {100_000, 0, 100_000, 1}, new long[] {100_000, 0, 1, 1}, true);
        long[] shape = {0, 0, 100_000, 100_000};
        shapeAndDisc("both", shape, new long[] {-100_000, 0, 100_000}, true);
        shapeAndDisc("both, 1 less", shape, new long[] {-100_000, 0, 99_999}, false);
        shapeAndDisc("both, 1 aside", shape, new long[] {-100_000, -1, 100_000}, false);
        shapeAndDisc("both, corner", shape, new long[] {-60_000, -80_000, 100_000}, true);
        shapeAndDisc("both, corner, 1 less", shape, new long[] {-60_000, -80_000, 99_999}, false);
    }

    private static void piecesTouchOnOneLayer() {
        check.sentence("when they are on one layer both");
        for (int a = 0; a < 4; a++) {
            for (int b = 0; b < 4; b++) {
                CopperNets x = new CopperNets(4);
                x.shape(a, 0, 0, 9, 9);
                x.pad(0, b, 0, 0, 9);
                oneNet("layers " + a + " and " + b, x, a == b);
            }
        }
        CopperNets over = new CopperNets(8);
        over.via(0, 3, 0, 0, 9);
        over.via(3, 7, 0, 0, 9);
        oneNet("vias with one layer in common", over, true);
        CopperNets next = new CopperNets(8);
        next.via(0, 3, 0, 0, 9);
        next.via(4, 7, 0, 0, 9);
        oneNet("vias on layers that follow one another", next, false);
        CopperNets within = new CopperNets(8);
        within.via(2, 3, 0, 0, 9);
        within.via(0, 7, 0, 0, 9);
        oneNet("a via within the other's layers", within, true);
    }

    private static void andSoOn() {
        check.sentence("PIECES that TOUCH belong to one, and so on");
        CopperNets x = new CopperNets(1);
        for (int i = 0; i < 30; i++) {
            x.shape(0, 10L * i, 0, 5, 1);
        }
        check.due("30 apart", x.run(), 30);
        for (int i = 0; i < 30; i++) {
            x.shape(0, 10L * i + 5, 1, 5, 1);
            check.due("bridge " + i, x.run(), Math.max(1, 29 - i));
        }
        for (int i = 0; i < 60; i++) {
            check.due("netOf(" + i + ") in a chain of 60", x.netOf(i), 0);
        }
        x.drop(44);
        check.due("the chain in two", x.run(), 2);
        check.due("its first end", x.netOf(14), 0);
        check.due("its second end", x.netOf(15), 1);
    }

    private static void numberedByLowestPieces() {
        check.sentence("numbered from 0 in the order of their lowest PIECES");
        CopperNets x = new CopperNets(1);
        x.shape(0, 0, 0, 1, 1);
        x.shape(0, 10, 0, 1, 1);
        x.shape(0, 20, 0, 1, 1);
        x.shape(0, 1, 0, 19, 1);
        check.due("nets", netsOf(x, 4), "0 0 0 0");
        x.drop(0);
        check.due("the lowest dropped", netsOf(x, 4), "-1 0 0 0");
        x.drop(3);
        check.due("the last dropped", netsOf(x, 4), "-1 0 1 -1");
        x.shape(0, 10, 1, 1, 1);
        x.shape(0, 0, 0, 1, 1);
        check.due("a low number for a late piece", netsOf(x, 6), "-1 0 1 -1 0 2");
    }

    private static String netsOf(CopperNets x, int pieces) {
        StringBuilder text = new StringBuilder();
        for (int i = 0; i < pieces; i++) {
            text.append(i == 0 ? "" : " ").append(x.netOf(i));
        }
        return text.toString();
    }

    private static void planIsOfNoneAtFirst() {
        check.sentence("A PLAN says of which NET 0 .. 19 a PIN is, or of none (at first)");
        for (int pin = 0; pin < 40; pin++) {
            check.due("none at first, pin " + pin, new CopperNets(1).plans(pin, -1), false);
            check.due("no net 0 at first, pin " + pin, new CopperNets(1).plans(pin, 0), true);
        }
        CopperNets x = new CopperNets(1);
        for (int net = 0; net < 20; net++) {
            check.due("net " + net, x.plans(39, net), true);
            check.due("net " + net + " it is", x.plans(39, net), false);
        }
    }

    private static void copperNetsHaveTheNetsOfTheirPads() {
        check.sentence("A COPPER NET has the NETS of its PADS' PINS");
        CopperNets x = new CopperNets(1);
        for (int pin = 19; pin >= 0; pin--) {
            x.plans(pin, pin);
            x.pad(pin, 0, 0, 0, 1);
        }
        check.due("all 20 nets in one", x.shorts(), 1);
        check.due("the lowest", x.short2(0, 1), 0);
        check.due("the second", x.short2(0, 2), 1);
        for (int pin = 0; pin < 18; pin++) {
            x.plans(pin, -1);
            check.due("still two", x.shorts(), 1);
        }
        check.due("the highest but one", x.short2(0, 1), 18);
        check.due("the highest", x.short2(0, 2), 19);
        x.plans(18, 19);
        check.due("one net", x.shorts(), 0);
        check.due("has a name", x.unnamed(0), -1);
        x.drop(0);
        x.drop(1);
        check.due("a dropped pad names nothing", x.unnamed(0), 2);
    }

    private static CopperNets padsOfNet0(long... places) {
        CopperNets x = new CopperNets(8);
        x.plans(0, 0);
        for (int i = 0; i < places.length / 2; i++) {
            // Each on a layer of its own, so that none touch wherever they are.
            x.pad(0, i, places[2 * i], places[2 * i + 1], 1);
        }
        return x;
    }

    private static String airlines(CopperNets x) {
        StringBuilder text = new StringBuilder();
        for (int k = 0; k < x.opens(0); k++) {
            text.append(k == 0 ? "" : ", ").append(x.open(0, k, 0)).append(' ').append(x.open(0, k, 1));
            text.append(' ').append(x.open(0, k, 2));
        }
        return text.toString();
    }

    private static void distanceIsOfPlaces() {
        check.sentence("the square of the distance of places");
        check.due("one place", airlines(padsOfNet0(7, 7, 7, 7)), "0 1 0");
        check.due("next places", airlines(padsOfNet0(7, 7, 7, 8)), "0 1 1");
        check.due("farthest", airlines(padsOfNet0(-100_000, -100_000, 100_000, 100_000)), "0 1 80000000000");
        check.due("farthest, turned", airlines(padsOfNet0(100_000, -100_000, -100_000, 100_000)), "0 1 80000000000");
        CopperNets x = new CopperNets(2);
        x.plans(0, 0);
        x.pad(0, 0, 0, 0, 100_000);
        x.pad(0, 1, 30, 40, 7);
        check.due("radii are no matter", airlines(x), "0 1 2500");
    }

    private static void airlinesByTheSquare() {
        check.sentence("AIRLINES in order: by that square");
        check.due("the nearest last", airlines(padsOfNet0(0, 0, 100, 0, 190, 0, 190, 80)), "2 3 6400, 1 2 8100, 0 1 10000");
        // In x and y together it would be 7 from 0 to 2, and 6 from 0 to 1.
        check.due("by the square, not by x and y together", airlines(padsOfNet0(0, 0, 5, 1, -3, 4)), "0 2 25, 0 1 26");
    }

    private static void thenByTheLowerPiece() {
        check.sentence("AIRLINES in order: then by the lower PIECE");
        check.due("a line", airlines(padsOfNet0(0, 0, 10, 0, 20, 0, 30, 0)), "0 1 100, 1 2 100, 2 3 100");
        check.due("a line from its end", airlines(padsOfNet0(0, 0, 20, 0, 30, 0, 10, 0)), "0 3 100, 1 2 100, 1 3 100");
        check.due("two far pairs", airlines(padsOfNet0(0, 0, 50, 0, 50, 2, 0, 2)), "0 3 4, 1 2 4, 0 1 2500");
    }

    private static void thenByTheOtherPiece() {
        check.sentence("AIRLINES in order: then by the other one");
        check.due("a square", airlines(padsOfNet0(0, 0, 10, 0, 10, 10, 0, 10)), "0 1 100, 0 3 100, 1 2 100");
        check.due("a square, crossed", airlines(padsOfNet0(0, 0, 10, 10, 10, 0, 0, 10)), "0 2 100, 0 3 100, 1 2 100");
        check.due("all at one place", airlines(padsOfNet0(5, 5, 5, 5, 5, 5, 5, 5)), "0 1 0, 0 2 0, 0 3 0");
    }

    private static void notJoinedByThoseAhead() {
        check.sentence("a pair is an AIRLINE, when the COPPER NETS of both are not joined by those ahead of it");
        check.due("no third side", airlines(padsOfNet0(0, 0, 3, 0, 0, 4)), "0 1 9, 0 2 16");
        check.due("not through a long way round", airlines(padsOfNet0(0, 0, 9, 0, 18, 0, 18, 9, 9, 10)),
                "0 1 81, 1 2 81, 2 3 81, 3 4 82");
        CopperNets x = padsOfNet0(0, 0, 3, 0, 50, 0);
        check.due("one less than copper nets", x.opens(0), 2);
        x.drop(1);
        check.due("joined by no other", airlines(x), "0 2 2500");
        x.drop(2);
        check.due("one pad", airlines(x), "");
        x.drop(0);
        check.due("no pad", airlines(x), "");
    }

    private static void onlyInDifferentCopperNets() {
        check.sentence("of all pairs of its PADS in different COPPER NETS");
        CopperNets x = new CopperNets(2);
        x.plans(0, 0);
        x.pad(0, 0, 0, 0, 1);
        x.pad(0, 0, 2, 0, 1);
        check.due("in one", airlines(x), "");
        x.pad(0, 1, 2, 5, 1);
        check.due("the nearer pad of one", airlines(x), "1 2 25");
        x.pad(0, 1, 0, 5, 1);
        check.due("two and two, the lower of equals", airlines(x), "0 3 25");
        x.via(0, 1, 1, 2, 3);
        check.due("joined by a via", airlines(x), "");
        x.drop(0);
        check.due("a pad less", airlines(x), "");
        x.drop(4);
        check.due("the via dropped", airlines(x), "1 2 25");
    }
}
