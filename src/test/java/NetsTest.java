/** Promises 6, 7, 14 and 15: run, netOf, drop, same; and who touches whom. */
public final class NetsTest {
    private static final Check check = new Check();

    public static void main(String[] args) {
        rectangles();
        discs();
        discsAndRectangles();
        farAndLarge();
        layers();
        numbering();
        dropping();
        wrongPieces();
        check.end();
    }

    private static void touching(String what, CopperNets x, boolean due) {
        check.due("6: " + what, x.run(), due ? 1 : 2);
        check.due("7: " + what, x.netOf(1), due ? 0 : 1);
        check.due("15: " + what, x.same(), true);
    }

    private static void rectangle(String what, long[] a, long[] b, boolean due) {
        CopperNets x = new CopperNets(1);
        x.shape(0, a[0], a[1], a[2], a[3]);
        x.shape(0, b[0], b[1], b[2], b[3]);
        touching(what, x, due);
    }

    private static void rectangles() {
        long[] middle = {10, 20, 5, 7};
        rectangle("side right", middle, new long[] {15, 20, 1, 1}, true);
        rectangle("apart right", middle, new long[] {16, 20, 1, 1}, false);
        rectangle("side left", middle, new long[] {9, 20, 1, 1}, true);
        rectangle("apart left", middle, new long[] {8, 20, 1, 1}, false);
        rectangle("side above", middle, new long[] {12, 27, 1, 1}, true);
        rectangle("apart above", middle, new long[] {12, 28, 1, 1}, false);
        rectangle("side below", middle, new long[] {12, 19, 1, 1}, true);
        rectangle("apart below", middle, new long[] {12, 18, 1, 1}, false);
        rectangle("corner", middle, new long[] {15, 27, 3, 3}, true);
        rectangle("inside", middle, new long[] {12, 22, 1, 1}, true);
        rectangle("around", middle, new long[] {0, 0, 100, 100}, true);
        rectangle("cross", middle, new long[] {0, 23, 100, 1}, true);
        rectangle("over in x alone", middle, new long[] {12, 40, 1, 1}, false);
    }

    private static void disc(String what, long ra, long bx, long by, long rb, boolean due) {
        CopperNets x = new CopperNets(1);
        x.pad(0, 0, -3, -4, ra);
        x.via(0, 0, bx, by, rb);
        touching(what, x, due);
    }

    private static void discs() {
        disc("rims meet", 5, 3, 4, 5, true);
        disc("rims apart", 5, 3, 4, 4, false);
        disc("rims meet straight", 5, 9, -4, 7, true);
        disc("rims apart straight", 5, 10, -4, 7, false);
        disc("boxes over, discs apart", 5, 5, 4, 6, false);
        disc("inside", 100, 0, 0, 1, true);
        disc("one place", 1, -3, -4, 1, true);
    }

    private static void mixed(String what, long px, long py, long r, boolean due) {
        CopperNets x = new CopperNets(1);
        x.shape(0, 10, 20, 5, 7);
        x.pad(0, 0, px, py, r);
        touching(what, x, due);
        CopperNets y = new CopperNets(1);
        y.via(0, 0, px, py, r);
        y.shape(0, 10, 20, 5, 7);
        touching(what + ", turned", y, due);
    }

    private static void discsAndRectangles() {
        mixed("side right", 18, 23, 3, true);
        mixed("apart right", 19, 23, 3, false);
        mixed("side left", 7, 23, 3, true);
        mixed("apart left", 6, 23, 3, false);
        mixed("side above", 12, 30, 3, true);
        mixed("apart above", 12, 31, 3, false);
        mixed("side below", 12, 17, 3, true);
        mixed("apart below", 12, 16, 3, false);
        mixed("corner", 18, 31, 5, true);
        mixed("by the corner", 18, 31, 4, false);
        mixed("box over, disc apart", 19, 31, 5, false);
        mixed("disc inside", 12, 23, 1, true);
        mixed("disc around", 12, 23, 1000, true);
    }

    private static void farAndLarge() {
        CopperNets x = new CopperNets(1);
        x.pad(0, 0, -100_000, 0, 100_000);
        x.pad(1, 0, 100_000, 0, 100_000);
        touching("largest discs", x, true);
        CopperNets y = new CopperNets(1);
        y.pad(0, 0, -100_000, -100_000, 100_000);
        y.shape(0, 0, -100_000, 100_000, 100_000);
        touching("largest both", y, true);
        CopperNets z = new CopperNets(1);
        z.pad(0, 0, -100_000, -100_000, 100_000);
        z.shape(0, 100_000, 100_000, 100_000, 100_000);
        touching("farthest both", z, false);
        CopperNets beyond = new CopperNets(1);
        beyond.shape(0, 100_000, 0, 100_000, 1);
        beyond.pad(0, 0, 100_000, 50, 49);
        touching("a shape may reach beyond the places", beyond, true);
    }

    private static void layers() {
        CopperNets x = new CopperNets(8);
        x.shape(0, 0, 0, 10, 10);
        x.shape(1, 0, 0, 10, 10);
        touching("other layers", x, false);
        check.due("3: via away", x.via(2, 5, 5, 5, 1), 2);
        check.due("6: via of layers 2 to 5", x.run(), 3);
        x.shape(2, 4, 4, 1, 1);
        x.pad(0, 5, 6, 5, 1);
        x.pad(0, 6, 5, 5, 1);
        x.pad(0, 4, 5, 5, 1);
        check.due("7: first layer of the via", x.netOf(3), 2);
        check.due("7: last layer of the via", x.netOf(4), 2);
        check.due("7: above the via", x.netOf(5), 3);
        check.due("7: between", x.netOf(6), 2);
        check.due("6: run", x.run(), 4);
        x.via(0, 2, 5, 5, 1);
        check.due("6: one via to another", x.run(), 2);
        check.due("7: joined by vias", x.netOf(6), 0);
        check.due("7: layer 6 stays apart", x.netOf(5), 1);
        check.due("15: same", x.same(), true);
    }

    private static void numbering() {
        CopperNets x = new CopperNets(1);
        for (int i = 0; i < 6; i++) {
            x.shape(0, 10 * i, 0, 1, 1);
        }
        for (int i = 0; i < 6; i++) {
            check.due("7: apart", x.netOf(i), i);
        }
        x.shape(0, 11, 0, 29, 1);
        String[] due = {"0", "1", "1", "1", "1", "2", "1"};
        for (int i = 0; i < due.length; i++) {
            check.due("7: joined", x.netOf(i), due[i]);
        }
        check.due("6: run", x.run(), 3);
        check.due("14: drop(1)", x.drop(1), true);
        String[] after = {"0", "-1", "1", "1", "1", "2", "1"};
        for (int i = 0; i < after.length; i++) {
            check.due("7: by their lowest pieces", x.netOf(i), after[i]);
        }
        check.due("14: drop(0)", x.drop(0), true);
        check.due("7: numbers from 0", x.netOf(2), 0);
        check.due("7: the next", x.netOf(5), 1);
        check.due("15: same", x.same(), true);
    }

    private static void dropping() {
        CopperNets x = new CopperNets(1);
        for (int i = 0; i < 9; i++) {
            x.shape(0, i, 0, 1, 1);
        }
        check.due("6: a chain", x.run(), 1);
        check.due("14: drop(4)", x.drop(4), true);
        check.due("6: 0 to 3 and 5 to 8 have no way round", x.run(), 2);
        check.due("7: netOf(3)", x.netOf(3), 0);
        check.due("7: netOf(5)", x.netOf(5), 1);
        check.due("7: netOf(8)", x.netOf(8), 1);
        check.due("7: netOf(4)", x.netOf(4), -1);
        check.due("14: drop(4) again", x.drop(4), false);
        check.due("15: same", x.same(), true);
        check.due("2: shape", x.shape(0, 4, 1, 1, 1), 9);
        check.due("6: mended", x.run(), 1);
        check.due("7: netOf(9)", x.netOf(9), 0);
        check.due("2: a way round", x.shape(0, 0, 1, 9, 1), 10);
        check.due("14: drop(9)", x.drop(9), true);
        check.due("6: a ring stays one", x.run(), 1);
        for (int i = 0; i < 11; i++) {
            check.due("14: drop(" + i + ")", x.drop(i), i != 4 && i != 9);
            check.due("15: same", x.same(), true);
        }
        check.due("6: nothing there", x.run(), 0);
        check.due("7: nothing there", x.netOf(10), -1);
    }

    private static void wrongPieces() {
        CopperNets x = new CopperNets(1);
        x.shape(0, 0, 0, 1, 1);
        for (int piece : new int[] {-1, 1, 59, 60, Integer.MIN_VALUE, Integer.MAX_VALUE}) {
            check.index("7: netOf(" + piece + ")", () -> x.netOf(piece));
            check.index("14: drop(" + piece + ")", () -> x.drop(piece));
        }
        check.due("6: run", x.run(), 1);
    }
}
