import java.util.function.IntUnaryOperator;

/**
 * A board with something of everything the document tells of, to try one call on: each trial gets
 * a new one, so that it stays far below the 512 calls of an object.
 */
final class Board {
    static final int LAYERS = 3;
    static final int PIECES = 7;
    static final int THERE = 4;
    static final int DROPPED = 6;
    static final int OPEN_NET = 3;
    static final int AIRLINES = 2;
    static final int SHORTS = 1;

    interface Trial {
        Object make(CopperNets board);
    }

    private Board() { }

    static CopperNets make() {
        CopperNets x = new CopperNets(LAYERS);
        x.plans(0, OPEN_NET);
        x.plans(1, OPEN_NET);
        x.plans(2, 4);
        x.plans(3, OPEN_NET);
        x.plans(39, 19);
        x.pad(0, 0, 0, 0, 5);
        x.pad(1, 0, 100, 0, 5);
        x.pad(2, 0, 104, 0, 5);
        x.via(0, 2, 100, 80, 5);
        x.shape(1, 0, 0, 10, 10);
        x.pad(3, 2, 100, 80, 5);
        x.shape(0, 0, 0, 100, 1);
        x.drop(DROPPED);
        return x;
    }

    /** Tries a call that is to be refused: the answer is as due, and the board is as it was. */
    static void refused(Check check, String call, String due, Trial trial) {
        CopperNets x = make();
        String before = answers(x);
        check.due(call, Check.outcome(() -> trial.make(x)), due);
        check.due(call + " leaves the board", answers(x), before);
        planStands(check, call, x);
        check.due(call + " takes no number", x.shape(0, 5000, 5000, 1, 1), PIECES);
    }

    /** The plan can't be asked for, but to plan what is planned already tells that it is so. */
    private static void planStands(Check check, String call, CopperNets x) {
        for (int pin = 0; pin < 40; pin++) {
            int net = pin == 2 ? 4 : pin == 39 ? 19 : pin <= 3 ? OPEN_NET : CopperNets.NONE;
            check.due(call + " leaves the plan of " + pin, x.plans(pin, net), false);
        }
    }

    /** What an object answers to every question that it can be asked, as one text. */
    static String answers(CopperNets x) {
        StringBuilder text = new StringBuilder();
        text.append(x.run()).append(' ').append(x.same()).append(' ').append(x.exact()).append("; nets");
        String net = Check.outcome(() -> x.netOf(0));
        for (int i = 1; !net.equals(Check.INDEX); i++) {
            text.append(' ').append(net);
            int piece = i;
            net = Check.outcome(() -> x.netOf(piece));
        }
        for (int n = 0; n < 20; n++) {
            airlines(text, x, n);
        }
        shorts(text, x);
        text.append("; unnamed");
        untilNone(text, x::unnamed);
        text.append("; unreached");
        untilNone(text, x::unreached);
        return text.toString();
    }

    private static void airlines(StringBuilder text, CopperNets x, int net) {
        int opens = x.opens(net);
        for (int k = 0; k < opens; k++) {
            text.append("; airline ").append(net).append(": ").append(x.open(net, k, 0)).append(' ');
            text.append(x.open(net, k, 1)).append(' ').append(x.open(net, k, 2));
        }
    }

    private static void untilNone(StringBuilder text, IntUnaryOperator kth) {
        for (int k = 0; k <= 60; k++) {
            int found = kth.applyAsInt(k);
            if (found == CopperNets.NONE) {
                return;
            }
            text.append(' ').append(found);
        }
    }

    private static void shorts(StringBuilder text, CopperNets x) {
        int shorts = x.shorts();
        for (int k = 0; k < shorts; k++) {
            text.append("; short");
            for (int what = 0; what < 5; what++) {
                text.append(' ').append(x.short2(k, what));
            }
        }
    }
}
