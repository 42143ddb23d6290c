/** Each sentence of the document's promises that names a bound, an empty or full case, or a refused call. */
public final class CallsBoundsTest {
    private static final Check check = new Check();
    private static final int[] FAR = {Integer.MIN_VALUE, Integer.MIN_VALUE + 1, Integer.MAX_VALUE};

    public static void main(String[] args) {
        newObject();
        shape();
        via();
        viaFromAboveTo();
        pad();
        fullBeforeOrAfterRefusal();
        plans();
        plansRefused();
        run();
        netOf();
        opens();
        open();
        shorts();
        short2Tells();
        short2Joins();
        short2Refused();
        unnamed();
        line();
        drop();
        dropRefused();
        same();
        unreached();
        exact();
        check.end();
    }

    private interface With {
        Object make(CopperNets board, int number);
    }

    /** Tries a call with the numbers just beyond its bounds, below and above, and with some far away. */
    private static void refusedBeyond(String call, int below, int above, String due, With with) {
        refusedWith(call, below, due, with);
        refusedWith(call, above, due, with);
        for (int far : FAR) {
            refusedWith(call, far, due, with);
        }
    }

    private static void refusedWith(String call, int number, String due, With with) {
        Board.refused(check, call + " " + number, due, x -> with.make(x, number));
    }

    private static void newObject() {
        check.sentence("1: No PIECES, no PLAN");
        for (int layers : new int[] {-1, 1, 8, 9}) {
            CopperNets x = new CopperNets(layers);
            check.due("all answers", Board.answers(x), "0 true true; nets; unnamed; unreached");
            check.index("drop(0)", () -> x.drop(0));
            check.index("open(0, 0, 0)", () -> x.open(0, 0, 0));
            check.index("short2(0, 0)", () -> x.short2(0, 0));
            check.due("line(0, 0, 0)", x.line(0, 0, 0), -1);
            for (int pin = 0; pin < 40; pin++) {
                check.due("pin " + pin + " is of none", x.plans(pin, -1), false);
            }
        }
        CopperNets one = new CopperNets(1);
        CopperNets two = new CopperNets(2);
        one.plans(0, 0);
        one.pad(0, 0, 0, 0, 1);
        check.due("another object's pieces are its own", two.run(), 0);
        check.due("and its plan", two.plans(0, -1), false);
        check.due("and its layers", Check.outcome(() -> two.shape(1, 0, 0, 1, 1)), 0);
        check.index("of one layer", () -> one.shape(1, 0, 0, 1, 1));
    }

    private static void shape() {
        check.sentence("2: its number");
        for (int layer = 0; layer < Board.LAYERS; layer++) {
            check.due("on layer " + layer, Board.make().shape(layer, 0, 0, 1, 1), Board.PIECES);
        }
        check.sentence("2: IndexOutOfBoundsException, when there is no such layer");
        refusedBeyond("layer", -1, Board.LAYERS, Check.INDEX, (x, layer) -> x.shape(layer, 0, 0, 1, 1));
        check.sentence("2: IllegalArgumentException, when a number is not so");
        Board.refused(check, "x", Check.ARGUMENT, x -> x.shape(0, 100_001, 0, 1, 1));
        Board.refused(check, "y", Check.ARGUMENT, x -> x.shape(0, 0, -100_001, 1, 1));
        Board.refused(check, "w", Check.ARGUMENT, x -> x.shape(0, 0, 0, 0, 1));
        Board.refused(check, "h", Check.ARGUMENT, x -> x.shape(0, 0, 0, 1, 100_001));
        Board.refused(check, "all of them", Check.ARGUMENT, x -> x.shape(0, 100_001, 100_001, 0, 0));
        Board.refused(check, "all of them and the layer", Check.INDEX, x -> x.shape(3, 100_001, 100_001, 0, 0));
    }

    private static void via() {
        check.sentence("3: A new VIA likewise");
        check.due("through all", Board.make().via(0, Board.LAYERS - 1, 0, 0, 1), Board.PIECES);
        refusedBeyond("from", -1, Board.LAYERS, Check.INDEX, (x, layer) -> x.via(layer, 2, 0, 0, 1));
        refusedBeyond("to", -1, Board.LAYERS, Check.INDEX, (x, layer) -> x.via(0, layer, 0, 0, 1));
        refusedBeyond("from and to", -1, Board.LAYERS, Check.INDEX, (x, layer) -> x.via(layer, layer, 0, 0, 1));
        Board.refused(check, "x", Check.ARGUMENT, x -> x.via(0, 0, -100_001, 0, 1));
        Board.refused(check, "y", Check.ARGUMENT, x -> x.via(0, 0, 0, 100_001, 1));
        Board.refused(check, "r", Check.ARGUMENT, x -> x.via(0, 0, 0, 0, 0));
        Board.refused(check, "r and from", Check.INDEX, x -> x.via(-1, 0, 0, 0, 0));
        Board.refused(check, "r and to", Check.INDEX, x -> x.via(0, 3, 0, 0, 0));
    }

    private static void viaFromAboveTo() {
        check.sentence("3: IllegalArgumentException, also when from is above to");
        for (int from = 0; from < Board.LAYERS; from++) {
            for (int to = 0; to < Board.LAYERS; to++) {
                int a = from;
                int b = to;
                String call = "from " + a + " to " + b;
                if (from > to) {
                    Board.refused(check, call, Check.ARGUMENT, x -> x.via(a, b, 0, 0, 1));
                } else {
                    check.due(call, Check.outcome(() -> Board.make().via(a, b, 0, 0, 1)), Board.PIECES);
                }
            }
        }
        Board.refused(check, "from no layer above to", Check.INDEX, x -> x.via(3, 1, 0, 0, 1));
        Board.refused(check, "from above no layer", Check.INDEX, x -> x.via(1, -1, 0, 0, 1));
    }

    private static void pad() {
        check.sentence("4: A new PAD likewise");
        for (int pin = 0; pin < 40; pin++) {
            check.due("of pin " + pin, Board.make().pad(pin, Board.LAYERS - 1, 0, 0, 1), Board.PIECES);
        }
        refusedBeyond("layer", -1, Board.LAYERS, Check.INDEX, (x, layer) -> x.pad(0, layer, 0, 0, 1));
        Board.refused(check, "x", Check.ARGUMENT, x -> x.pad(0, 0, 100_001, 0, 1));
        Board.refused(check, "y", Check.ARGUMENT, x -> x.pad(0, 0, 0, -100_001, 1));
        Board.refused(check, "r", Check.ARGUMENT, x -> x.pad(0, 0, 0, 0, 100_001));
        check.sentence("4: IndexOutOfBoundsException, also when it is no PIN");
        refusedBeyond("pin", -1, 40, Check.INDEX, (x, pin) -> x.pad(pin, 0, 0, 0, 1));
        Board.refused(check, "pin and layer", Check.INDEX, x -> x.pad(40, 3, 0, 0, 1));
        Board.refused(check, "pin and r", Check.INDEX, x -> x.pad(-1, 0, 0, 0, 0));
    }

    private static void fullBeforeOrAfterRefusal() {
        check.sentence("2 to 4: NONE when there are 60");
        CopperNets x = new CopperNets(2);
        x.plans(0, 0);
        for (int i = 0; i < 59; i++) {
            x.shape(0, 3L * i, 0, 1, 1);
        }
        check.due("the 60th is taken", x.pad(0, 1, 0, 0, 1), 59);
        String before = Board.answers(x);
        check.due("shape", x.shape(0, 0, 0, 100, 1), -1);
        check.due("via", x.via(0, 1, 0, 0, 100), -1);
        check.due("pad", x.pad(0, 0, 0, 0, 1), -1);
        check.due("nothing has changed", Board.answers(x), before);
        check.sentence("2 to 4: when there are 60, a wrong argument throws as before");
        check.index("shape, layer", () -> x.shape(2, 0, 0, 1, 1));
        check.argument("shape, w", () -> x.shape(0, 0, 0, 0, 1));
        check.index("via, to", () -> x.via(0, 2, 0, 0, 1));
        check.argument("via, from above to", () -> x.via(1, 0, 0, 0, 1));
        check.index("pad, pin", () -> x.pad(40, 0, 0, 0, 1));
        check.argument("pad, r", () -> x.pad(0, 0, 0, 0, 0));
        check.sentence("2 to 4: a dropped piece is one of the 60");
        check.due("drop", x.drop(59), true);
        check.due("shape", x.shape(0, 0, 0, 1, 1), -1);
        check.due("via", x.via(0, 0, 0, 0, 1), -1);
        check.due("pad", x.pad(0, 0, 0, 0, 1), -1);
    }

    private static void plans() {
        check.sentence("5: A PIN's NET, or NONE, in the PLAN: whether it was another one");
        for (int pin : new int[] {0, 1, 38, 39}) {
            CopperNets x = new CopperNets(1);
            check.due("of none, of none", x.plans(pin, -1), false);
            check.due("of none, now 0", x.plans(pin, 0), true);
            check.due("of 0, of 0", x.plans(pin, 0), false);
            check.due("of 0, now 19", x.plans(pin, 19), true);
            check.due("of 19, of 19", x.plans(pin, 19), false);
            check.due("of 19, now none", x.plans(pin, -1), true);
            check.due("of none again", x.plans(pin, -1), false);
            x.plans(pin, 7);
            for (int other = 0; other < 40; other++) {
                check.due("pin " + other + " when " + pin + " is of 7", x.plans(other, 7), other != pin);
            }
        }
    }

    private static void plansRefused() {
        check.sentence("5: IndexOutOfBoundsException, when it is no PIN");
        refusedBeyond("pin", -1, 40, Check.INDEX, (x, pin) -> x.plans(pin, 0));
        refusedBeyond("of none, pin", -1, 40, Check.INDEX, (x, pin) -> x.plans(pin, -1));
        Board.refused(check, "pin and net", Check.INDEX, x -> x.plans(40, 20));
        check.sentence("5: IllegalArgumentException, when it is no NET");
        refusedBeyond("net", -2, 20, Check.ARGUMENT, (x, net) -> x.plans(0, net));
        refusedBeyond("pin 39, net", -2, 20, Check.ARGUMENT, (x, net) -> x.plans(39, net));
        refusedBeyond("pin of none, net", -2, 20, Check.ARGUMENT, (x, net) -> x.plans(20, net));
    }

    private static void run() {
        check.sentence("6: How many COPPER NETS there are");
        CopperNets x = new CopperNets(1);
        check.due("empty", x.run(), 0);
        for (int i = 0; i < 60; i++) {
            x.via(0, 0, 5L * i, 0, 1);
            check.due(i + 1 + " pieces apart", x.run(), i + 1);
        }
        for (int i = 59; i >= 0; i--) {
            x.drop(i);
            check.due(i + " pieces left", x.run(), i);
        }
        CopperNets one = new CopperNets(1);
        for (int i = 0; i < 60; i++) {
            one.via(0, 0, 0, 0, 1);
            check.due(i + 1 + " pieces at one place", one.run(), 1);
        }
    }

    private static void netOf() {
        check.sentence("7: The COPPER NET of a PIECE");
        check.due("all of the board", Board.answers(Board.make()).startsWith("4 true false; nets 0 1 1 2 3 2 -1;"), true);
        CopperNets x = new CopperNets(1);
        for (int i = 0; i < 60; i++) {
            x.via(0, 0, 5L * i, 0, 1);
        }
        check.due("the last of 60", x.netOf(59), 59);
        check.sentence("7: NONE when it is not THERE");
        check.due("dropped", Board.make().netOf(Board.DROPPED), -1);
        x.drop(0);
        x.drop(59);
        check.due("the first of 60", x.netOf(0), -1);
        check.due("the last of 60", x.netOf(59), -1);
        check.sentence("7: IndexOutOfBoundsException, when there is no such PIECE");
        refusedBeyond("piece", -1, Board.PIECES, Check.INDEX, (b, piece) -> b.netOf(piece));
        refusedBeyond("piece", 59, 60, Check.INDEX, (b, piece) -> b.netOf(piece));
        check.index("the 61st", () -> x.netOf(60));
        check.index("before the first", () -> x.netOf(-1));
        check.index("the first of a new object", () -> new CopperNets(1).netOf(0));
    }

    private static void opens() {
        check.sentence("8: How many AIRLINES a NET has");
        for (int net = 0; net < 20; net++) {
            int n = net;
            String due = net == Board.OPEN_NET ? "2" : "0";
            check.due("net " + net, Check.outcome(() -> Board.make().opens(n)), due);
        }
        CopperNets x = new CopperNets(1);
        x.plans(39, 19);
        for (int i = 0; i < 60; i++) {
            x.pad(39, 0, 5L * i, 0, 1);
            check.due(i + 1 + " pads", x.opens(19), i);
        }
        check.sentence("8: IndexOutOfBoundsException, when it is no NET");
        refusedBeyond("net", -1, 20, Check.INDEX, (b, net) -> b.opens(net));
    }

    private static void open() {
        check.sentence("9: the lower PIECE (what 0), the other (1), the square (2)");
        long[][] due = {{1, 5, 6400}, {0, 1, 10_000}};
        CopperNets x = Board.make();
        for (int k = 0; k < due.length; k++) {
            for (int what = 0; what < 3; what++) {
                check.due("open(3, " + k + ", " + what + ")", x.open(3, k, what), due[k][what]);
            }
        }
        check.sentence("9: IndexOutOfBoundsException, when it is no NET");
        refusedBeyond("net", -1, 20, Check.INDEX, (b, net) -> b.open(net, 0, 0));
        check.sentence("9: IndexOutOfBoundsException, when there is none such");
        for (int what = 0; what < 3; what++) {
            int w = what;
            refusedBeyond("k, what " + w, -1, Board.AIRLINES, Check.INDEX, (b, k) -> b.open(3, k, w));
            Board.refused(check, "a net without airlines, what " + w, Check.INDEX, b -> b.open(4, 0, w));
        }
        check.sentence("9: IndexOutOfBoundsException, when there is no such what");
        refusedBeyond("what", -1, 3, Check.INDEX, (b, what) -> b.open(3, 0, what));
        Board.refused(check, "nothing is right", Check.INDEX, b -> b.open(20, 2, 3));
        sixtyPads();
    }

    private static void sixtyPads() {
        check.sentence("9: the most AIRLINES that there can be");
        CopperNets x = new CopperNets(1);
        x.plans(0, 19);
        for (int i = 0; i < 60; i++) {
            x.pad(0, 0, 1000L * i, 0, 1);
        }
        check.due("the last", x.open(19, 58, 0) + " " + x.open(19, 58, 1) + " " + x.open(19, 58, 2), "58 59 1000000");
        check.index("past the last", () -> x.open(19, 59, 0));
        check.due("line of the last", x.line(19, 58, 0) + " " + x.line(19, 58, 1), "58 59");
        check.due("line past the last", x.line(19, 59, 0), -1);
    }

    private static void shorts() {
        check.sentence("10: How many COPPER NETS have two NETS or more");
        check.due("empty", new CopperNets(1).shorts(), 0);
        CopperNets x = new CopperNets(1);
        for (int pin = 0; pin < 20; pin++) {
            x.plans(pin, pin);
        }
        for (int pin = 0; pin < 20; pin++) {
            x.pad(pin, 0, 0, 0, 1);
            check.due(pin + 1 + " nets in one", x.shorts(), pin == 0 ? 0 : 1);
        }
        CopperNets many = new CopperNets(1);
        many.plans(0, 0);
        many.plans(1, 19);
        for (int i = 0; i < 60; i++) {
            many.pad(i % 2, 0, 10L * (i / 2), 0, 1);
            check.due("shorts with " + (i + 1) + " pads", many.shorts(), (i + 1) / 2);
        }
        String last = many.short2(29, 0) + " " + many.short2(29, 3) + " " + many.short2(29, 4);
        check.due("the last of 30", last, "29 58 59");
        check.index("past the last of 30", () -> many.short2(30, 0));
        many.plans(1, 0);
        check.due("one net twice is no two", many.shorts(), 0);
    }

    private static void short2Tells() {
        check.sentence("11: its number (what 0), its lowest NET (1), its second one (2), the lower (3), the other (4)");
        CopperNets board = Board.make();
        long[] due = {1, 3, 4, 1, 2};
        for (int what = 0; what < 5; what++) {
            check.due("short2(0, " + what + ")", board.short2(0, what), due[what]);
        }
        CopperNets x = new CopperNets(1);
        for (int pin = 0; pin < 20; pin++) {
            x.plans(pin, 19 - pin);
            x.pad(pin, 0, 0, 0, 1);
            if (pin > 0) {
                check.due("the lowest", x.short2(0, 1), 19 - pin);
                check.due("the second", x.short2(0, 2), 20 - pin);
                check.due("still by the first two", x.short2(0, 3) + " " + x.short2(0, 4), "0 1");
            }
        }
    }

    private static String joinOf(CopperNets x) {
        return Check.outcome(() -> x.short2(0, 3)) + " " + Check.outcome(() -> x.short2(0, 4));
    }

    private static CopperNets pinsOfNets(int... nets) {
        CopperNets x = new CopperNets(1);
        for (int pin = 0; pin < nets.length; pin++) {
            x.plans(pin, nets[pin]);
        }
        return x;
    }

    private static void short2Joins() {
        check.sentence("11: when PIECES come by their numbers, each joined with those below it, by their numbers");
        CopperNets x = pinsOfNets(1, 2);
        x.pad(0, 0, 0, 0, 1);
        x.shape(0, 100, 0, 1, 1);
        x.pad(1, 0, 50, 0, 1);
        x.shape(0, 0, 0, 100, 1);
        check.due("0 and 1 are joined before 2", joinOf(x), "2 3");
        x.plans(2, 3);
        x.pad(2, 0, 0, 0, 1);
        check.due("a third net comes too late", joinOf(x), "2 3");
        x.plans(1, -1);
        check.due("as if the second had none", joinOf(x), "0 4");
        x.drop(0);
        x.plans(1, 2);
        check.due("as if the first had never come", joinOf(x), "3 4");
        check.sentence("11: that join, of PIECES of this COPPER NET");
        CopperNets y = pinsOfNets(1, 2);
        y.pad(0, 0, 0, 0, 1);
        y.pad(1, 0, 0, 0, 1);
        y.pad(0, 0, 50, 0, 1);
        y.pad(1, 0, 50, 0, 1);
        check.due("its own of the second short", y.short2(1, 3) + " " + y.short2(1, 4), "2 3");
        y.drop(0);
        check.due("the second short is the first now", joinOf(y), "2 3");
        check.sentence("11: by which for the first time two NETS are in one: through copper without a name");
        CopperNets z = pinsOfNets(1, 2);
        z.shape(0, 0, 0, 10, 1);
        z.pad(0, 0, 0, 0, 1);
        z.pad(1, 0, 10, 0, 1);
        check.due("the join is with the shape", joinOf(z), "0 2");
    }

    private static void short2Refused() {
        check.sentence("11: IndexOutOfBoundsException, when there is none such");
        for (int what = 0; what < 5; what++) {
            int w = what;
            refusedBeyond("k, what " + w, -1, Board.SHORTS, Check.INDEX, (x, k) -> x.short2(k, w));
        }
        check.index("of a new object", () -> new CopperNets(1).short2(0, 0));
        check.sentence("11: IndexOutOfBoundsException, when there is no such what");
        refusedBeyond("what", -1, 5, Check.INDEX, (x, what) -> x.short2(0, what));
        refusedBeyond("k and what", -1, 5, Check.INDEX, (x, what) -> x.short2(1, what));
    }

    private static void unnamed() {
        check.sentence("12: The k-th PIECE, rising, in a COPPER NET without a NET");
        CopperNets x = new CopperNets(1);
        for (int i = 0; i < 60; i++) {
            x.pad(i % 40, 0, 5L * i, 0, 1);
        }
        for (int k = 0; k < 60; k++) {
            check.due("60 without a net, k " + k, x.unnamed(k), k);
        }
        check.sentence("12: NONE, when there are not so many (or k is below 0)");
        check.due("empty", new CopperNets(1).unnamed(0), -1);
        check.due("60 without a net, k 60", x.unnamed(60), -1);
        for (int k : new int[] {-1, -2, 61, Integer.MIN_VALUE, Integer.MAX_VALUE}) {
            check.due("60 without a net, k " + k, x.unnamed(k), -1);
        }
        for (int pin = 0; pin < 40; pin++) {
            x.plans(pin, 19);
            int left = 60 - pin - 1 - Math.min(pin + 1, 20);
            check.due("pins to " + pin + " planned", x.unnamed(left), -1);
            check.due("pins to " + pin + " planned, the last", x.unnamed(left - 1) == -1, left == 0);
        }
        check.due("the only one of the board", Board.make().unnamed(0), 4);
        refusedBeyond("k", -1, 1, "-1", (board, k) -> board.unnamed(k));
    }

    private static void line() {
        check.sentence("13: A PIECE of the k-th AIRLINE of a NET: the lower one (which 0), the other (1)");
        CopperNets x = Board.make();
        check.due("first", x.line(3, 0, 0) + " " + x.line(3, 0, 1), "1 5");
        check.due("second", x.line(3, 1, 0) + " " + x.line(3, 1, 1), "0 1");
        check.sentence("13: NONE, when there is no such AIRLINE");
        for (int which = 0; which < 2; which++) {
            int w = which;
            refusedBeyond("which " + w + ", k", -1, Board.AIRLINES, "-1", (b, k) -> b.line(3, k, w));
            refusedBeyond("no airlines, which " + w + ", k", -1, 0, "-1", (b, k) -> b.line(19, k, w));
        }
        check.sentence("13: IndexOutOfBoundsException, when it is no NET");
        refusedBeyond("net", -1, 20, Check.INDEX, (b, net) -> b.line(net, 0, 0));
        refusedBeyond("no such airline and net", -1, 20, Check.INDEX, (b, net) -> b.line(net, 9, 1));
        check.sentence("13: IndexOutOfBoundsException, when it is another which");
        refusedBeyond("which", -1, 2, Check.INDEX, (b, which) -> b.line(3, 0, which));
        refusedBeyond("no such airline and which", -1, 2, Check.INDEX, (b, which) -> b.line(3, 2, which));
        refusedBeyond("no airlines and which", -1, 2, Check.INDEX, (b, which) -> b.line(0, 0, which));
    }

    private static void drop() {
        check.sentence("14: A PIECE is dropped: whether it was THERE");
        CopperNets x = new CopperNets(1);
        for (int i = 0; i < 60; i++) {
            x.shape(0, 5L * i, 0, 1, 1);
        }
        for (int i = 0; i < 60; i++) {
            check.due("drop(" + i + ")", x.drop(i), true);
            check.due("drop(" + i + ") again", x.drop(i), false);
            check.due("netOf(" + i + ")", x.netOf(i), -1);
            check.due("those left", x.run(), 59 - i);
        }
        Board.refused(check, "one dropped before", "false", b -> b.drop(Board.DROPPED));
        CopperNets y = Board.make();
        for (int i = Board.PIECES - 1; i >= 0; i--) {
            check.due("of the board, drop(" + i + ")", y.drop(i), i != Board.DROPPED);
        }
        check.due("nothing left", Board.answers(y),
                "0 true false; nets -1 -1 -1 -1 -1 -1 -1; unnamed; unreached 0 1 2 3 39");
    }

    private static void dropRefused() {
        check.sentence("14: IndexOutOfBoundsException, when there is no such PIECE");
        refusedBeyond("piece", -1, Board.PIECES, Check.INDEX, (x, piece) -> x.drop(piece));
        refusedBeyond("piece", 59, 60, Check.INDEX, (x, piece) -> x.drop(piece));
        check.index("of a new object", () -> new CopperNets(1).drop(0));
        CopperNets full = new CopperNets(1);
        for (int i = 0; i < 60; i++) {
            full.shape(0, 5L * i, 0, 1, 1);
        }
        check.index("the 61st", () -> full.drop(60));
        check.index("before the first", () -> full.drop(-1));
        check.due("all are there", full.run(), 60);
    }

    private static void same() {
        check.sentence("15: Always");
        CopperNets x = new CopperNets(2);
        check.due("new", x.same(), true);
        for (int i = 0; i < 60; i++) {
            // A grid of 10 by 6 on which neighbours touch; every seventh is a via.
            if (i % 7 == 0) {
                x.via(0, 1, 2L * (i % 10), 2L * (i / 10), 1);
            } else {
                x.pad(i % 40, i % 2, 2L * (i % 10), 2L * (i / 10), 1);
            }
            check.due("after piece " + i, x.same(), true);
        }
        check.due("full", x.shape(0, 0, 0, 1, 1) + " " + x.same(), "-1 true");
        for (int i = 0; i < 60; i++) {
            // 17 and 60 have no divisor in common, so that every piece has its turn.
            check.due("drop " + i * 17 % 60, x.drop(i * 17 % 60) + " " + x.same(), "true true");
            check.due("drop again", x.drop(i * 17 % 60) + " " + x.same(), "false true");
        }
        check.due("none left", x.run(), 0);
    }

    private static void unreached() {
        check.sentence("16: The k-th PIN, rising, that has a NET, but no PAD THERE");
        CopperNets x = new CopperNets(1);
        for (int pin = 39; pin >= 0; pin--) {
            x.plans(pin, 0);
        }
        for (int k = 0; k < 40; k++) {
            check.due("all 40 pins, k " + k, x.unreached(k), k);
        }
        check.sentence("16: NONE likewise, when there are not so many (or k is below 0)");
        check.due("new", new CopperNets(1).unreached(0), -1);
        for (int k : new int[] {40, 41, 60, -1, -2, Integer.MIN_VALUE, Integer.MAX_VALUE}) {
            check.due("all 40 pins, k " + k, x.unreached(k), -1);
        }
        for (int pin = 0; pin < 40; pin++) {
            x.pad(pin, 0, 5L * pin, 0, 1);
            check.due("pins to " + pin + " reached", x.unreached(0), pin == 39 ? -1 : pin + 1);
            check.due("pins to " + pin + " reached, not so many", x.unreached(39 - pin), -1);
        }
        x.drop(39);
        x.drop(0);
        check.due("two dropped", x.unreached(0) + " " + x.unreached(1) + " " + x.unreached(2), "0 39 -1");
        x.plans(0, -1);
        check.due("one of none", x.unreached(0) + " " + x.unreached(1), "39 -1");
        check.due("the only one of the board", Board.make().unreached(0), 39);
        refusedBeyond("k", -1, 1, "-1", (board, k) -> board.unreached(k));
    }

    private static void exact() {
        check.sentence("17: Whether no NET has an AIRLINE");
        for (int net = 0; net < 20; net++) {
            CopperNets x = new CopperNets(1);
            x.plans(0, net);
            x.pad(0, 0, 0, 0, 1);
            check.due("one pad of net " + net, x.exact(), true);
            x.pad(0, 0, 3, 0, 1);
            check.due("an airline of net " + net, x.exact(), false);
            x.shape(0, 0, 0, 3, 1);
            check.due("joined", x.exact(), true);
        }
        check.sentence("17: no COPPER NET two NETS");
        CopperNets y = pinsOfNets(0, 19);
        y.pad(0, 0, 0, 0, 1);
        y.pad(1, 0, 3, 0, 1);
        check.due("two nets apart", y.exact(), true);
        y.shape(0, 0, 0, 3, 1);
        check.due("two nets in one", y.exact(), false);
        y.plans(1, 0);
        check.due("one net in one", y.exact(), true);
        check.sentence("17: and all PINS that have a NET have a PAD THERE");
        for (int pin = 0; pin < 40; pin++) {
            CopperNets x = new CopperNets(1);
            x.plans(pin, 0);
            check.due("pin " + pin + " not reached", x.exact(), false);
            x.pad(pin, 0, 0, 0, 1);
            check.due("pin " + pin + " reached", x.exact(), true);
            x.drop(0);
            check.due("its pad dropped", x.exact(), false);
            x.plans(pin, -1);
            check.due("of no net", x.exact(), true);
        }
        check.sentence("17: copper without a name is no matter");
        CopperNets z = new CopperNets(1);
        z.shape(0, 0, 0, 1, 1);
        z.pad(0, 0, 50, 0, 1);
        check.due("a shape and a pad of no net", z.exact(), true);
    }
}
