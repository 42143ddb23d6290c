/** Promises 8, 9 and 13: opens, open, line. */
public final class AirlinesTest {
    private static final Check check = new Check();

    public static void main(String[] args) {
        order();
        equalSquares();
        severalPadsOfANet();
        farthest();
        changes();
        allPieces();
        everyCallLooksAnew();
        wrongInputs();
        check.end();
    }

    /** Each row of due is the lower piece, the other, and the square. */
    private static void airlinesAre(String when, CopperNets x, int net, long[]... due) {
        check.due("8: " + when + ": opens", x.opens(net), due.length);
        for (int k = 0; k < due.length; k++) {
            for (int what = 0; what < 3; what++) {
                check.due("9: " + when + ": open(" + k + ", " + what + ")", open(x, net, k, what), due[k][what]);
            }
            check.due("13: " + when + ": line(" + k + ", 0)", x.line(net, k, 0), due[k][0]);
            check.due("13: " + when + ": line(" + k + ", 1)", x.line(net, k, 1), due[k][1]);
        }
        int past = due.length;
        check.index("9: " + when + ": past the last", () -> x.open(net, past, 0));
        check.due("13: " + when + ": past the last", x.line(net, past, 0), -1);
    }

    private static String open(CopperNets x, int net, int k, int what) {
        return Check.outcome(() -> x.open(net, k, what));
    }

    private static long[] row(long lower, long other, long square) {
        return new long[] {lower, other, square};
    }

    private static CopperNets padsOfNet(int net, long... places) {
        CopperNets x = new CopperNets(2);
        for (int i = 0; i < places.length / 2; i++) {
            x.plans(i, net);
            x.pad(i, i % 2, places[2 * i], places[2 * i + 1], 1);
        }
        return x;
    }

    private static void order() {
        airlinesAre("no pads", new CopperNets(1), 0);
        airlinesAre("one pad", padsOfNet(3, 5, 5), 3);
        CopperNets x = padsOfNet(19, 0, 0, 100, 0, 10, 0, 103, 4);
        airlinesAre("four", x, 19, row(1, 3, 25), row(0, 2, 100), row(1, 2, 8100));
        airlinesAre("another net", x, 18);
    }

    private static void equalSquares() {
        CopperNets x = padsOfNet(0, 0, 0, 10, 0, 10, 10, 0, 10);
        airlinesAre("a square", x, 0, row(0, 1, 100), row(0, 3, 100), row(1, 2, 100));
        CopperNets y = padsOfNet(0, 10, 10, 0, 0, 10, 0, 0, 10, 5, 5);
        airlinesAre("middle last", y, 0, row(0, 4, 50), row(1, 4, 50), row(2, 4, 50), row(3, 4, 50));
    }

    private static void severalPadsOfANet() {
        CopperNets x = new CopperNets(2);
        for (int pin = 0; pin < 4; pin++) {
            x.plans(pin, 7);
        }
        x.plans(9, 8);
        x.pad(0, 0, 0, 0, 1);
        x.pad(1, 0, 40, 0, 1);
        x.shape(0, 0, 0, 40, 1);
        x.pad(2, 1, 40, 30, 1);
        x.pad(2, 1, 100, 30, 1);
        x.pad(9, 1, 41, 20, 1);
        x.pad(30, 1, 41, 10, 1);
        airlinesAre("the least of two copper nets", x, 7, row(1, 3, 900), row(3, 4, 3600));
        x.shape(1, 40, 29, 60, 2);
        airlinesAre("two copper nets", x, 7, row(1, 3, 900));
        x.pad(3, 1, 0, 3, 1);
        airlinesAre("a near one", x, 7, row(0, 8, 9), row(1, 3, 900));
    }

    private static void farthest() {
        CopperNets x = padsOfNet(1, -100_000, -100_000, 100_000, 100_000);
        airlinesAre("farthest", x, 1, row(0, 1, 80_000_000_000L));
        CopperNets one = new CopperNets(2);
        one.plans(0, 5);
        one.pad(0, 0, 7, 7, 3);
        one.pad(0, 1, 7, 7, 3);
        airlinesAre("one place on two layers, of one pin", one, 5, row(0, 1, 0));
    }

    private static void changes() {
        CopperNets x = padsOfNet(2, 0, 0, 10, 0, 30, 0);
        airlinesAre("three", x, 2, row(0, 1, 100), row(1, 2, 400));
        x.drop(1);
        airlinesAre("dropped", x, 2, row(0, 2, 900));
        x.plans(2, 3);
        airlinesAre("of another net", x, 2);
        x.plans(2, 2);
        airlinesAre("and back", x, 2, row(0, 2, 900));
        int wire = x.shape(0, 0, 0, 30, 1);
        airlinesAre("joined", x, 2);
        x.drop(wire);
        airlinesAre("parted", x, 2, row(0, 2, 900));
    }

    private static void allPieces() {
        CopperNets x = new CopperNets(1);
        for (int pin = 0; pin < 40; pin++) {
            x.plans(pin, 6);
        }
        for (int i = 0; i < 60; i++) {
            // Each gap is a little wider than the one before it.
            x.pad(i % 40, 0, 5L * i + (long) i * (i + 1), 0, 1);
        }
        long[][] due = new long[59][];
        for (int i = 0; i < 59; i++) {
            long gap = 5 + 2L * (i + 1);
            due[i] = row(i, i + 1, gap * gap);
        }
        airlinesAre("sixty", x, 6, due);
    }

    private static void everyCallLooksAnew() {
        CopperNets x = padsOfNet(4, 0, 0, 10, 0, 30, 0);
        check.due("9: open with no call before it", open(x, 4, 0, 2), 100);
        x.drop(1);
        check.due("9: open after a drop", open(x, 4, 0, 2), 900);
        CopperNets y = padsOfNet(4, 0, 0, 10, 0, 30, 0);
        check.due("13: line with no call before it", y.line(4, 0, 1), 1);
        y.drop(1);
        check.due("13: line after a drop", y.line(4, 0, 1), 2);
        check.due("13: line of another net", y.line(5, 0, 1), -1);
    }

    private static void wrongInputs() {
        CopperNets x = padsOfNet(0, 0, 0, 10, 0);
        // Pads of pins without a net are of no net that could be asked for.
        x.pad(30, 0, 500, 0, 1);
        x.pad(31, 0, 600, 0, 1);
        for (int net : new int[] {-1, 20, Integer.MIN_VALUE, Integer.MAX_VALUE}) {
            check.index("8: net " + net, () -> x.opens(net));
            check.index("9: net " + net, () -> x.open(net, 0, 0));
            check.index("13: net " + net, () -> x.line(net, 0, 0));
            check.index("13: net " + net + ", no airline", () -> x.line(net, 5, 0));
        }
        for (int k : new int[] {-1, 1, 60, Integer.MIN_VALUE, Integer.MAX_VALUE}) {
            check.index("9: k " + k, () -> x.open(0, k, 0));
            check.due("13: k " + k, x.line(0, k, 0), -1);
            check.due("13: k " + k, x.line(0, k, 1), -1);
            check.index("13: which 2, k " + k, () -> x.line(0, k, 2));
        }
        for (int what : new int[] {-1, 3, Integer.MIN_VALUE, Integer.MAX_VALUE}) {
            check.index("9: what " + what, () -> x.open(0, 0, what));
            check.index("13: which " + what, () -> x.line(0, 0, what));
        }
        check.index("13: which 2", () -> x.line(0, 0, 2));
    }
}
