/** Promises 10 and 11: shorts, short2. */
public final class ShortsTest {
    private static final Check check = new Check();

    public static void main(String[] args) {
        none();
        padsThatTouch();
        bridge();
        severalJoins();
        notTheNewestJoin();
        severalShorts();
        changes();
        everyCallLooksAnew();
        wrongInputs();
        check.end();
    }

    /** Each row of due is the number, the lowest net, the second one, the lower piece and the other. */
    private static void shortsAre(String when, CopperNets x, long[]... due) {
        check.due("10: " + when + ": shorts", x.shorts(), due.length);
        for (int k = 0; k < due.length; k++) {
            for (int what = 0; what < 5; what++) {
                check.due("11: " + when + ": short2(" + k + ", " + what + ")", short2(x, k, what), due[k][what]);
            }
        }
        int past = due.length;
        check.index("11: " + when + ": past the last", () -> x.short2(past, 0));
    }

    private static String short2(CopperNets x, int k, int what) {
        return Check.outcome(() -> x.short2(k, what));
    }

    private static long[] row(long number, long lowest, long second, long lower, long other) {
        return new long[] {number, lowest, second, lower, other};
    }

    private static CopperNets planned() {
        CopperNets x = new CopperNets(2);
        for (int pin = 0; pin < 20; pin++) {
            x.plans(pin, pin);
            x.plans(20 + pin, pin);
        }
        return x;
    }

    private static void none() {
        shortsAre("new", new CopperNets(1));
        CopperNets x = planned();
        x.pad(0, 0, 0, 0, 1);
        x.pad(20, 0, 1, 0, 1);
        x.pad(1, 1, 0, 0, 1);
        shortsAre("one net twice, another on its own layer", x);
        CopperNets y = new CopperNets(1);
        y.pad(0, 0, 0, 0, 1);
        y.pad(1, 0, 0, 0, 1);
        shortsAre("no plan", y);
        y.plans(1, 4);
        shortsAre("one pin of no net", y);
    }

    private static void padsThatTouch() {
        CopperNets x = planned();
        x.pad(19, 0, 0, 0, 5);
        x.pad(0, 0, 10, 0, 5);
        shortsAre("two pads", x, row(0, 0, 19, 0, 1));
    }

    private static void bridge() {
        CopperNets x = planned();
        x.shape(0, 500, 0, 1, 1);
        x.pad(3, 0, 0, 0, 5);
        x.pad(2, 0, 100, 0, 5);
        x.pad(4, 0, 50, 50, 5);
        x.shape(0, 0, -1, 100, 1);
        shortsAre("wire", x, row(1, 2, 3, 2, 4));
        x.shape(0, 50, 0, 1, 50);
        shortsAre("a third net", x, row(1, 2, 3, 2, 4));
        x.pad(1, 0, 50, 52, 5);
        shortsAre("a lower net later", x, row(1, 1, 2, 2, 4));
    }

    private static void severalJoins() {
        CopperNets x = planned();
        x.shape(0, 0, 0, 10, 1);
        x.shape(0, 20, 0, 10, 1);
        x.pad(5, 0, 30, 0, 1);
        x.shape(0, 40, 0, 10, 1);
        x.pad(6, 0, 50, 0, 1);
        x.shape(0, 0, 1, 60, 1);
        // It is joined with 0, then 1 (with 5 on it), 2 (there already), then 3 (with 6 on it).
        shortsAre("by their numbers", x, row(0, 5, 6, 3, 5));
    }

    private static void notTheNewestJoin() {
        CopperNets x = planned();
        x.pad(1, 0, 0, 0, 2);
        x.shape(0, 0, 0, 10, 1);
        x.pad(1, 0, 100, 0, 2);
        x.pad(2, 0, 101, 0, 2);
        x.pad(3, 0, 10, 0, 1);
        x.shape(0, 0, -1, 100, 1);
        // 2 and 3 were in one before 4 joined 1.
        shortsAre("first of all", x, row(0, 1, 2, 2, 3));
        x.drop(3);
        shortsAre("then the next", x, row(0, 1, 3, 1, 4));
    }

    private static void severalShorts() {
        CopperNets x = planned();
        x.pad(1, 0, 0, 0, 2);
        x.pad(2, 0, 100, 0, 2);
        x.pad(3, 0, 200, 0, 2);
        x.pad(9, 0, 200, 1, 2);
        x.pad(4, 0, 100, 1, 2);
        x.pad(8, 0, 101, 1, 2);
        shortsAre("two", x, row(1, 2, 4, 1, 4), row(2, 3, 9, 2, 3));
        x.pad(7, 0, 1, 0, 2);
        shortsAre("three", x, row(0, 1, 7, 0, 6), row(1, 2, 4, 1, 4), row(2, 3, 9, 2, 3));
        x.drop(0);
        shortsAre("numbers fall", x, row(0, 2, 4, 1, 4), row(1, 3, 9, 2, 3));
    }

    private static void changes() {
        CopperNets x = new CopperNets(2);
        x.pad(0, 0, 0, 0, 2);
        x.via(0, 1, 1, 0, 2);
        x.pad(1, 1, 2, 0, 2);
        shortsAre("no plan", x);
        x.plans(0, 4);
        x.plans(1, 4);
        shortsAre("one net", x);
        x.plans(1, 3);
        shortsAre("through a via", x, row(0, 3, 4, 1, 2));
        x.plans(0, -1);
        shortsAre("one of none", x);
        x.plans(0, 19);
        x.drop(1);
        shortsAre("parted", x);
        x.via(0, 1, 1, 0, 2);
        shortsAre("joined again", x, row(0, 3, 19, 2, 3));
    }

    private static void everyCallLooksAnew() {
        CopperNets x = planned();
        x.pad(5, 0, 0, 0, 5);
        x.pad(6, 0, 0, 0, 5);
        x.pad(7, 0, 0, 0, 5);
        check.due("11: short2 with no call before it", short2(x, 0, 2), 6);
        x.plans(5, -1);
        check.due("11: its lowest net after the plan", short2(x, 0, 1), 6);
        // 2 is joined with 0 first, and 1, of net 6, is in one with 0 by then.
        check.due("11: its lower piece after the plan", short2(x, 0, 3), 0);
        check.due("11: its other piece after the plan", short2(x, 0, 4), 2);
        check.due("15: same, whatever was looked at before", x.same(), true);
        x.drop(1);
        check.due("15: same", x.same(), true);
        check.due("11: gone with the piece", short2(x, 0, 0), "throws.IndexOutOfBoundsException");
    }

    private static void wrongInputs() {
        CopperNets x = planned();
        x.pad(0, 0, 0, 0, 5);
        x.pad(1, 0, 0, 0, 5);
        for (int k : new int[] {-1, 1, 60, Integer.MIN_VALUE, Integer.MAX_VALUE}) {
            for (int what = 0; what < 5; what++) {
                int w = what;
                check.index("11: short2(" + k + ", " + w + ")", () -> x.short2(k, w));
            }
        }
        for (int what : new int[] {-1, 5, Integer.MIN_VALUE, Integer.MAX_VALUE}) {
            check.index("11: what " + what, () -> x.short2(0, what));
        }
    }
}
