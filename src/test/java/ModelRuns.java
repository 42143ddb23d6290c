import java.util.List;
import java.util.Random;
import java.util.TreeSet;

/** All promises at once: long runs of calls, every answer held against a plain model of the document. */
public final class ModelRuns {
    private static final Check check = new Check();

    private final Random random;
    private final int seed;
    private final int layers;
    private final int pins;
    private final int nets;
    private final long spread;
    private final long largest;
    private final CopperNets x;
    private final PlainModel model = new PlainModel();

    private ModelRuns(int seed) {
        this.seed = seed;
        random = new Random(seed);
        layers = 1 + random.nextInt(8);
        pins = pick(1, 4, 12, 40);
        nets = pick(1, 2, 5, 20);
        spread = pick(5, 12, 40, 300, 100_000);
        largest = pick(1, 3, 8, 100_000);
        x = new CopperNets(layers);
    }

    public static void main(String[] args) {
        for (int seed = 0; seed < 400 && check.wrong() == 0; seed++) {
            new ModelRuns(seed).go();
        }
        check.end();
    }

    private void go() {
        int changes = 20 + random.nextInt(130);
        for (int step = 0; step < changes; step++) {
            change();
            if (random.nextInt(4) == 0 || step == changes - 1) {
                compare();
            }
        }
    }

    private int pick(int... from) {
        return from[random.nextInt(from.length)];
    }

    private long place() {
        return random.nextLong(-spread, spread + 1);
    }

    private long size() {
        return random.nextLong(1, Math.min(largest, spread) + 1);
    }

    private void due(String call, Object got, Object want) {
        check.due("seed " + seed + ": " + call, got, want);
    }

    private void change() {
        int kind = random.nextInt(10);
        if (kind < 2) {
            addShape();
        } else if (kind < 3) {
            addVia();
        } else if (kind < 6) {
            addPad();
        } else if (kind < 8) {
            int pin = random.nextInt(pins);
            int net = random.nextInt(nets + 1) - 1;
            due("plans", x.plans(pin, net), model.plan[pin] != net);
            model.plan[pin] = net;
        } else if (!model.pieces.isEmpty()) {
            int piece = random.nextInt(model.pieces.size());
            due("drop", x.drop(piece), model.there.set(piece, false));
        }
    }

    private void addShape() {
        int layer = random.nextInt(layers);
        long px = place(), py = place(), w = size(), h = size();
        int want = model.add(new PlainModel.Piece(false, layer, layer, px, py, w, h, -1));
        due("shape", x.shape(layer, px, py, w, h), want);
    }

    private void addVia() {
        int from = random.nextInt(layers);
        int to = from + random.nextInt(layers - from);
        long px = place(), py = place(), r = size();
        int want = model.add(new PlainModel.Piece(true, from, to, px, py, r, r, -1));
        due("via", x.via(from, to, px, py, r), want);
    }

    private void addPad() {
        int pin = random.nextInt(pins);
        int layer = random.nextInt(layers);
        long px = place(), py = place(), r = size();
        int want = model.add(new PlainModel.Piece(true, layer, layer, px, py, r, r, pin));
        due("pad", x.pad(pin, layer, px, py, r), want);
    }

    private void compare() {
        List<TreeSet<Integer>> copper = model.copperNets();
        due("run", x.run(), copper.size());
        due("same", x.same(), true);
        due("exact", x.exact(), model.exact());
        for (int i = 0; i < model.pieces.size(); i++) {
            due("netOf", x.netOf(i), model.netOf(i));
        }
        for (int net = 0; net < 20; net++) {
            compareAirlines(net);
        }
        compareShorts();
        List<Integer> unnamed = model.unnamed();
        List<Integer> unreached = model.unreached();
        for (int k = -1; k < 62; k++) {
            due("unnamed(" + k + ")", x.unnamed(k), k >= 0 && k < unnamed.size() ? unnamed.get(k) : -1);
            due("unreached(" + k + ")", x.unreached(k), k >= 0 && k < unreached.size() ? unreached.get(k) : -1);
        }
    }

    private void compareAirlines(int net) {
        List<PlainModel.Line> lines = model.airlines(net);
        due("opens", x.opens(net), lines.size());
        for (int k = 0; k < Math.min(lines.size(), x.opens(net)); k++) {
            due("open(" + k + ", 0)", x.open(net, k, 0), lines.get(k).lower());
            due("open(" + k + ", 1)", x.open(net, k, 1), lines.get(k).other());
            due("open(" + k + ", 2)", x.open(net, k, 2), lines.get(k).square());
            due("line(" + k + ", 0)", x.line(net, k, 0), lines.get(k).lower());
            due("line(" + k + ", 1)", x.line(net, k, 1), lines.get(k).other());
        }
    }

    private void compareShorts() {
        List<long[]> shorts = model.shorts();
        due("shorts", x.shorts(), shorts.size());
        for (int k = 0; k < Math.min(shorts.size(), x.shorts()); k++) {
            for (int what = 0; what < 5; what++) {
                due("short2(" + k + ", " + what + ")", x.short2(k, what), shorts.get(k)[what]);
            }
        }
    }
}
