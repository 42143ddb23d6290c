import java.util.Random;

/**
 * All promises at once: runs of 512 calls, every answer held against a plain model of the
 * document. Some numbers are wrong, so that refused calls stand among the others.
 */
public final class ModelRuns {
    private static final int RUNS = 1000;
    private static final int CALLS = 512;
    private static final Check check = new Check();

    private final Random random;
    private final int seed;
    private final int layers;
    private final int pins;
    private final int nets;
    private final long spread;
    private final long largest;
    private final int changes;
    private final int drops;
    private final CopperNets x;
    private final PlainModel model;

    private ModelRuns(int seed) {
        this.seed = seed;
        random = new Random(seed);
        int told = pick(-1, 0, 1, 2, 3, 5, 8, 9);
        layers = Math.max(1, Math.min(8, told));
        pins = pick(1, 4, 12, 40);
        nets = pick(1, 2, 5, 20);
        spread = pick(5, 12, 40, 300, 100_000);
        largest = pick(1, 3, 8, 100_000);
        changes = pick(10, 30, 60);
        drops = pick(0, 5, 20, 40);
        x = new CopperNets(told);
        model = new PlainModel(told);
    }

    public static void main(String[] args) {
        for (int seed = 0; seed < RUNS && check.wrong() == 0; seed++) {
            new ModelRuns(seed).go();
        }
        check.end();
    }

    private void go() {
        for (int call = 0; call < CALLS; call++) {
            if (random.nextInt(100) < changes) {
                change();
            } else {
                ask();
            }
        }
    }

    private int pick(int... from) {
        return from[random.nextInt(from.length)];
    }

    private boolean goesWrong() {
        return random.nextInt(60) == 0;
    }

    private int below(int size) {
        return goesWrong() ? pick(-1, size, Integer.MIN_VALUE, Integer.MAX_VALUE) : random.nextInt(Math.max(1, size));
    }

    private long place() {
        if (goesWrong()) {
            return random.nextBoolean() ? pick(-100_001, 100_001) : pick(-100_000, 100_000);
        }
        return random.nextLong(-spread, spread + 1);
    }

    private long size() {
        if (goesWrong()) {
            return pick(0, -1, 100_001, 100_000);
        }
        return random.nextLong(1, Math.min(largest, spread) + 1);
    }

    private void due(String call, Check.Call got, Check.Call want) {
        check.due("seed " + seed + ": " + call, Check.outcome(got), Check.outcome(want));
    }

    private void change() {
        if (random.nextInt(100) < drops) {
            int piece = below(model.count());
            due("drop(" + piece + ")", () -> x.drop(piece), () -> model.drop(piece));
            return;
        }
        switch (random.nextInt(8)) {
            case 0, 1 -> addShape();
            case 2 -> addVia();
            case 3, 4, 5 -> addPad();
            default -> plan();
        }
    }

    private void plan() {
        int pin = goesWrong() ? pick(-1, 39, 40) : random.nextInt(pins);
        int net = goesWrong() ? pick(-2, 19, 20) : random.nextInt(nets + 1) - 1;
        due("plans(" + pin + ", " + net + ")", () -> x.plans(pin, net), () -> model.plans(pin, net));
    }

    private void addShape() {
        int layer = below(layers);
        long px = place(), py = place(), w = size(), h = size();
        due("shape", () -> x.shape(layer, px, py, w, h), () -> model.shape(layer, px, py, w, h));
    }

    private void addVia() {
        int one = below(layers);
        int two = below(layers);
        int from = goesWrong() ? Math.max(one, two) : Math.min(one, two);
        int to = one + two - from;
        long px = place(), py = place(), r = size();
        due("via", () -> x.via(from, to, px, py, r), () -> model.via(from, to, px, py, r));
    }

    private void addPad() {
        int pin = goesWrong() ? pick(-1, 39, 40) : random.nextInt(pins);
        int layer = below(layers);
        long px = place(), py = place(), r = size();
        due("pad", () -> x.pad(pin, layer, px, py, r), () -> model.pad(pin, layer, px, py, r));
    }

    private void ask() {
        switch (random.nextInt(11)) {
            case 0 -> due("run()", x::run, model::run);
            case 1 -> askNetOf();
            case 2, 3 -> askAirline();
            case 4 -> due("shorts()", x::shorts, model::shorts);
            case 5, 6 -> askShort();
            case 7 -> due("same()", x::same, model::same);
            case 8 -> askUnnamed();
            case 9 -> askUnreached();
            default -> due("exact()", x::exact, model::exact);
        }
    }

    private void askNetOf() {
        int piece = below(model.count());
        due("netOf(" + piece + ")", () -> x.netOf(piece), () -> model.netOf(piece));
    }

    private void askAirline() {
        int net = netWithAirlines();
        int k = below(net < 0 || net > 19 ? 1 : model.opens(net));
        int what = below(3);
        int which = below(2);
        String of = "(" + net + ", " + k + ", ";
        switch (random.nextInt(4)) {
            case 0 -> due("opens(" + net + ")", () -> x.opens(net), () -> model.opens(net));
            case 1 -> due("line" + of + which + ")", () -> x.line(net, k, which), () -> model.line(net, k, which));
            default -> due("open" + of + what + ")", () -> x.open(net, k, what), () -> model.open(net, k, what));
        }
    }

    /** A few tries to find one, as most answers for the others are none. */
    private int netWithAirlines() {
        int net = random.nextInt(nets);
        for (int tries = 0; tries < 3 && model.opens(net) == 0; tries++) {
            net = random.nextInt(nets);
        }
        return goesWrong() ? below(20) : net;
    }

    private void askShort() {
        int k = below(model.shorts());
        int what = below(5);
        due("short2(" + k + ", " + what + ")", () -> x.short2(k, what), () -> model.short2(k, what));
    }

    private void askUnnamed() {
        int k = random.nextInt(4) == 0 ? below(60) : random.nextInt(8);
        due("unnamed(" + k + ")", () -> x.unnamed(k), () -> model.unnamed(k));
    }

    private void askUnreached() {
        int k = random.nextInt(4) == 0 ? below(40) : random.nextInt(4);
        due("unreached(" + k + ")", () -> x.unreached(k), () -> model.unreached(k));
    }
}
