import java.util.ArrayList;
import java.util.Arrays;
import java.util.Comparator;
import java.util.List;
import java.util.TreeSet;

/**
 * The document's face and terms written down once more, word by word and with no care for speed:
 * all is worked out anew at every question.
 */
final class PlainModel {
    private record Piece(boolean disc, int from, int to, long x, long y, long w, long h, int pin) { }

    private record Line(int lower, int other, long square) { }

    private final int layers;
    private final List<Piece> pieces = new ArrayList<>();
    private final List<Boolean> there = new ArrayList<>();
    private final int[] plan = new int[40];

    PlainModel(int layers) {
        this.layers = layers < 1 ? 1 : layers > 8 ? 8 : layers;
        Arrays.fill(plan, -1);
    }

    int shape(int layer, long x, long y, long w, long h) {
        index(layer, layers);
        argument(x, -100_000, 100_000);
        argument(y, -100_000, 100_000);
        argument(w, 1, 100_000);
        argument(h, 1, 100_000);
        return add(new Piece(false, layer, layer, x, y, w, h, -1));
    }

    int via(int from, int to, long x, long y, long r) {
        index(from, layers);
        index(to, layers);
        argument(from, 0, to);
        return addDisc(from, to, x, y, r, -1);
    }

    int pad(int pin, int layer, long x, long y, long r) {
        index(pin, 40);
        index(layer, layers);
        return addDisc(layer, layer, x, y, r, pin);
    }

    boolean plans(int pin, int net) {
        index(pin, 40);
        argument(net, -1, 19);
        boolean another = plan[pin] != net;
        plan[pin] = net;
        return another;
    }

    int run() {
        return copperNets().size();
    }

    int netOf(int piece) {
        index(piece, pieces.size());
        List<TreeSet<Integer>> nets = copperNets();
        for (int n = 0; n < nets.size(); n++) {
            if (nets.get(n).contains(piece)) {
                return n;
            }
        }
        return -1;
    }

    int opens(int net) {
        index(net, 20);
        return airlines(net).size();
    }

    long open(int net, int k, int what) {
        index(net, 20);
        index(what, 3);
        List<Line> lines = airlines(net);
        index(k, lines.size());
        return what == 0 ? lines.get(k).lower : what == 1 ? lines.get(k).other : lines.get(k).square;
    }

    int shorts() {
        return shorted().size();
    }

    long short2(int k, int what) {
        List<long[]> shorts = shorted();
        index(k, shorts.size());
        index(what, 5);
        return shorts.get(k)[what];
    }

    int unnamed(int k) {
        return orNone(withoutName(), k);
    }

    int line(int net, int k, int which) {
        index(net, 20);
        index(which, 2);
        List<Line> lines = airlines(net);
        if (k < 0 || k >= lines.size()) {
            return -1;
        }
        return which == 0 ? lines.get(k).lower : lines.get(k).other;
    }

    boolean drop(int piece) {
        index(piece, pieces.size());
        return there.set(piece, false);
    }

    boolean same() {
        return true;
    }

    int unreached(int k) {
        return orNone(notReached(), k);
    }

    boolean exact() {
        boolean open = false;
        for (int net = 0; net < 20; net++) {
            open |= !airlines(net).isEmpty();
        }
        return !open && shorted().isEmpty() && notReached().isEmpty();
    }

    int count() {
        return pieces.size();
    }

    private static void index(int number, int size) {
        if (number < 0 || number >= size) {
            throw new IndexOutOfBoundsException();
        }
    }

    private static void argument(long number, long least, long most) {
        if (number < least || number > most) {
            throw new IllegalArgumentException();
        }
    }

    private static int orNone(List<Integer> list, int k) {
        return k >= 0 && k < list.size() ? list.get(k) : -1;
    }

    private int addDisc(int from, int to, long x, long y, long r, int pin) {
        argument(x, -100_000, 100_000);
        argument(y, -100_000, 100_000);
        argument(r, 1, 100_000);
        return add(new Piece(true, from, to, x, y, r, r, pin));
    }

    private int add(Piece piece) {
        if (pieces.size() == 60) {
            return -1;
        }
        pieces.add(piece);
        there.add(true);
        return pieces.size() - 1;
    }

    private boolean touch(int i, int j) {
        Piece a = pieces.get(i);
        Piece b = pieces.get(j);
        boolean layer = false;
        for (int l = 0; l < 8; l++) {
            layer |= a.from <= l && l <= a.to && b.from <= l && l <= b.to;
        }
        return layer && there.get(i) && there.get(j) && meet(a, b);
    }

    private static boolean meet(Piece a, Piece b) {
        if (a.disc && b.disc) {
            return (a.x - b.x) * (a.x - b.x) + (a.y - b.y) * (a.y - b.y) <= (a.w + b.w) * (a.w + b.w);
        }
        if (a.disc) {
            long nearX = Math.min(Math.max(a.x, b.x), b.x + b.w);
            long nearY = Math.min(Math.max(a.y, b.y), b.y + b.h);
            return (a.x - nearX) * (a.x - nearX) + (a.y - nearY) * (a.y - nearY) <= a.w * a.w;
        }
        if (b.disc) {
            return meet(b, a);
        }
        return a.x <= b.x + b.w && b.x <= a.x + a.w && a.y <= b.y + b.h && b.y <= a.y + a.h;
    }

    /** The copper nets, each as its pieces, by their lowest ones. */
    private List<TreeSet<Integer>> copperNets() {
        List<TreeSet<Integer>> nets = new ArrayList<>();
        TreeSet<Integer> left = new TreeSet<>();
        for (int i = 0; i < pieces.size(); i++) {
            if (there.get(i)) {
                left.add(i);
            }
        }
        while (!left.isEmpty()) {
            TreeSet<Integer> net = new TreeSet<>();
            List<Integer> todo = new ArrayList<>(List.of(left.pollFirst()));
            while (!todo.isEmpty()) {
                int at = todo.remove(todo.size() - 1);
                net.add(at);
                for (int j : new ArrayList<>(left)) {
                    if (touch(at, j)) {
                        left.remove(j);
                        todo.add(j);
                    }
                }
            }
            nets.add(net);
        }
        return nets;
    }

    private int nameOf(int piece) {
        int pin = pieces.get(piece).pin;
        return pin < 0 ? -1 : plan[pin];
    }

    private TreeSet<Integer> names(Iterable<Integer> some) {
        TreeSet<Integer> names = new TreeSet<>();
        for (int piece : some) {
            if (nameOf(piece) >= 0) {
                names.add(nameOf(piece));
            }
        }
        return names;
    }

    private List<Line> airlines(int net) {
        List<TreeSet<Integer>> joined = copperNets();
        List<Line> pairs = new ArrayList<>();
        for (int i = 0; i < pieces.size(); i++) {
            for (int j = i + 1; j < pieces.size(); j++) {
                if (there.get(i) && there.get(j) && nameOf(i) == net && nameOf(j) == net) {
                    long dx = pieces.get(i).x - pieces.get(j).x;
                    long dy = pieces.get(i).y - pieces.get(j).y;
                    pairs.add(new Line(i, j, dx * dx + dy * dy));
                }
            }
        }
        pairs.sort(Comparator.comparingLong(Line::square).thenComparingInt(Line::lower).thenComparingInt(Line::other));
        List<Line> lines = new ArrayList<>();
        for (Line pair : pairs) {
            if (unite(joined, pair.lower, pair.other)) {
                lines.add(pair);
            }
        }
        return lines;
    }

    private static TreeSet<Integer> with(List<TreeSet<Integer>> sets, int piece) {
        for (TreeSet<Integer> set : sets) {
            if (set.contains(piece)) {
                return set;
            }
        }
        throw new IllegalStateException();
    }

    private static boolean unite(List<TreeSet<Integer>> sets, int a, int b) {
        TreeSet<Integer> one = with(sets, a);
        TreeSet<Integer> two = with(sets, b);
        if (one == two) {
            return false;
        }
        one.addAll(two);
        sets.removeIf(set -> set == two);
        return true;
    }

    /** Each short as its number, its lowest net, its second one, and the two pieces. */
    private List<long[]> shorted() {
        List<long[]> shorts = new ArrayList<>();
        List<TreeSet<Integer>> nets = copperNets();
        for (int n = 0; n < nets.size(); n++) {
            List<Integer> names = new ArrayList<>(names(nets.get(n)));
            if (names.size() >= 2) {
                Line join = firstJoin(nets.get(n));
                shorts.add(new long[] {n, names.get(0), names.get(1), join.lower, join.other});
            }
        }
        return shorts;
    }

    private Line firstJoin(TreeSet<Integer> net) {
        List<TreeSet<Integer>> sets = new ArrayList<>();
        for (int b : net) {
            sets.add(new TreeSet<>(List.of(b)));
            for (int a : net.headSet(b)) {
                if (touch(a, b)) {
                    unite(sets, a, b);
                    if (names(with(sets, a)).size() >= 2) {
                        return new Line(a, b, 0);
                    }
                }
            }
        }
        throw new IllegalStateException();
    }

    private List<Integer> withoutName() {
        List<Integer> found = new ArrayList<>();
        List<TreeSet<Integer>> nets = copperNets();
        for (int i = 0; i < pieces.size(); i++) {
            if (there.get(i) && names(with(nets, i)).isEmpty()) {
                found.add(i);
            }
        }
        return found;
    }

    private List<Integer> notReached() {
        List<Integer> found = new ArrayList<>();
        for (int pin = 0; pin < 40; pin++) {
            boolean reached = plan[pin] == -1;
            for (int i = 0; i < pieces.size(); i++) {
                reached |= there.get(i) && pieces.get(i).pin == pin;
            }
            if (!reached) {
                found.add(pin);
            }
        }
        return found;
    }
}
