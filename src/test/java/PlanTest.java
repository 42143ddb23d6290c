/** Promises 5, 12, 16 and 17: plans, unnamed, unreached, exact. */
public final class PlanTest {
    private static final Check check = new Check();

    public static void main(String[] args) {
        plan();
        unnamed();
        unreached();
        exact();
        check.end();
    }

    private static void plan() {
        CopperNets x = new CopperNets(1);
        check.due("5: first", x.plans(0, 0), true);
        check.due("5: again", x.plans(0, 0), false);
        check.due("5: another", x.plans(0, 19), true);
        check.due("5: back", x.plans(0, 0), true);
        check.due("5: of none", x.plans(0, CopperNets.NONE), true);
        check.due("5: of none again", x.plans(0, CopperNets.NONE), false);
        check.due("5: last pin", x.plans(39, 19), true);
        for (int pin : new int[] {-1, 40, Integer.MIN_VALUE, Integer.MAX_VALUE}) {
            check.index("5: pin " + pin, () -> x.plans(pin, 1));
            check.index("5: pin and net", () -> x.plans(pin, 20));
        }
        for (int net : new int[] {-2, 20, Integer.MIN_VALUE, Integer.MAX_VALUE}) {
            check.argument("5: net " + net, () -> x.plans(39, net));
        }
        check.due("5: a refused net changes nothing", x.plans(39, 19), false);
    }

    private static void unnamed() {
        CopperNets x = new CopperNets(1);
        x.shape(0, 0, 0, 1, 1);
        x.pad(5, 0, 10, 0, 1);
        x.shape(0, 11, 0, 5, 1);
        x.shape(0, 30, 0, 1, 1);
        x.pad(6, 0, 40, 0, 1);
        int[] none = {0, 1, 2, 3, 4, -1, -1};
        unnamedAre("no plan", x, none);
        x.plans(5, 0);
        unnamedAre("one net", x, 0, 3, 4, -1);
        x.plans(6, 19);
        unnamedAre("two nets", x, 0, 3, -1);
        x.drop(0);
        unnamedAre("dropped", x, 3, -1);
        x.drop(1);
        unnamedAre("its pad dropped", x, 2, 3, -1);
        x.plans(6, -1);
        unnamedAre("no net any more", x, 2, 3, 4, -1);
        for (int k : new int[] {-1, Integer.MIN_VALUE, Integer.MAX_VALUE}) {
            check.due("12: unnamed(" + k + ")", x.unnamed(k), -1);
        }
    }

    private static void unnamedAre(String when, CopperNets x, int... due) {
        for (int k = 0; k < due.length; k++) {
            check.due("12: " + when + ": unnamed(" + k + ")", x.unnamed(k), due[k]);
        }
    }

    private static void unreached() {
        CopperNets x = new CopperNets(2);
        x.plans(39, 4);
        x.plans(0, 4);
        x.plans(7, 5);
        unreachedAre("no pads", x, 0, 7, 39, -1);
        x.pad(7, 0, 0, 0, 1);
        x.pad(7, 1, 0, 0, 1);
        x.pad(8, 0, 50, 50, 1);
        unreachedAre("pads of 7", x, 0, 39, -1);
        x.drop(0);
        unreachedAre("one is left", x, 0, 39, -1);
        x.drop(1);
        unreachedAre("none is left", x, 0, 7, 39, -1);
        x.plans(0, -1);
        unreachedAre("0 of none", x, 7, 39, -1);
        for (int k : new int[] {-1, Integer.MIN_VALUE, Integer.MAX_VALUE}) {
            check.due("16: unreached(" + k + ")", x.unreached(k), -1);
        }
    }

    private static void unreachedAre(String when, CopperNets x, int... due) {
        for (int k = 0; k < due.length; k++) {
            check.due("16: " + when + ": unreached(" + k + ")", x.unreached(k), due[k]);
        }
    }

    private static void exact() {
        CopperNets x = new CopperNets(1);
        check.due("17: new", x.exact(), true);
        x.shape(0, 500, 500, 1, 1);
        check.due("17: copper without a name is no matter", x.exact(), true);
        x.plans(0, 19);
        check.due("17: pin 0 not reached", x.exact(), false);
        int a = x.pad(0, 0, 0, 0, 1);
        check.due("17: reached", x.exact(), true);
        x.plans(1, 19);
        x.pad(1, 0, 10, 0, 1);
        check.due("17: an airline", x.exact(), false);
        int wire = x.shape(0, 0, 0, 10, 1);
        check.due("17: joined", x.exact(), true);
        x.plans(2, 0);
        int c = x.pad(2, 0, 5, 50, 1);
        check.due("17: two nets apart", x.exact(), true);
        int bridge = x.shape(0, 5, 0, 1, 50);
        check.due("17: a short", x.exact(), false);
        x.drop(bridge);
        check.due("17: no short any more", x.exact(), true);
        x.drop(wire);
        check.due("17: open again", x.exact(), false);
        x.plans(1, -1);
        check.due("17: by the plan", x.exact(), true);
        x.drop(c);
        check.due("17: pad dropped", x.exact(), false);
        x.plans(2, -1);
        check.due("17: not planned", x.exact(), true);
        x.drop(a);
        check.due("17: pin 0 not reached again", x.exact(), false);
    }
}
