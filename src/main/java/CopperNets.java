import java.util.Arrays;

/**
 * Nets of copper by pieces that touch on layers and through vias, kept up as pieces come and go,
 * and compared with those of a plan.
 */
public final class CopperNets {
    public static final int NONE = -1;

    private static final int MOST_LAYERS = 8;
    private static final int MOST_PIECES = 60;
    private static final int PINS = 40;
    private static final int NETS = 20;
    private static final long FARTHEST_PLACE = 100_000L;
    private static final long LARGEST_SIZE = 100_000L;

    private final int layers;
    private final int[] netOfPin = new int[PINS];
    private final Pieces pieces = new Pieces();
    private final Groups kept = new Groups();
    private final Airlines airlines = new Airlines();

    // Room to work in, made once, so that no call makes objects; each call fills it anew.
    private final Groups spare = new Groups();
    private final int[] netBits = new int[MOST_PIECES];
    private final int[] grownBits = new int[MOST_PIECES];

    public CopperNets(int layers) {
        this.layers = Math.max(1, Math.min(MOST_LAYERS, layers));
        Arrays.fill(netOfPin, NONE);
    }

    public int shape(int layer, long x, long y, long w, long h)
            throws IndexOutOfBoundsException, IllegalArgumentException {
        checkLayer(layer);
        checkPlace(x, y);
        checkSize(w);
        checkSize(h);
        if (pieces.isFull()) {
            return NONE;
        }
        return takeIn(pieces.addRectangle(layer, x, y, w, h));
    }

    public int via(int from, int to, long x, long y, long r)
            throws IndexOutOfBoundsException, IllegalArgumentException {
        checkLayer(from);
        checkLayer(to);
        if (from > to) {
            throw new IllegalArgumentException("from is above to");
        }
        checkPlace(x, y);
        checkSize(r);
        if (pieces.isFull()) {
            return NONE;
        }
        return takeIn(pieces.addDisc(NONE, from, to, x, y, r));
    }

    public int pad(int pin, int layer, long x, long y, long r)
            throws IndexOutOfBoundsException, IllegalArgumentException {
        checkPin(pin);
        checkLayer(layer);
        checkPlace(x, y);
        checkSize(r);
        if (pieces.isFull()) {
            return NONE;
        }
        return takeIn(pieces.addDisc(pin, layer, layer, x, y, r));
    }

    public boolean plans(int pin, int net) throws IndexOutOfBoundsException, IllegalArgumentException {
        checkPin(pin);
        if (net != NONE && !isNet(net)) {
            throw new IllegalArgumentException("no such net");
        }
        boolean another = netOfPin[pin] != net;
        netOfPin[pin] = net;
        return another;
    }

    public int run() {
        return leadersBelow(pieces.count);
    }

    public int netOf(int shape) throws IndexOutOfBoundsException {
        checkPiece(shape);
        return kept.has(shape) ? leadersBelow(kept.leaderOf(shape)) : NONE;
    }

    public int opens(int net) throws IndexOutOfBoundsException {
        checkNet(net);
        drawAirlines(net);
        return airlines.count;
    }

    public long open(int net, int k, int what) throws IndexOutOfBoundsException {
        checkNet(net);
        checkWhat(what, 2);
        drawAirlines(net);
        if (!airlines.has(k)) {
            throw new IndexOutOfBoundsException("no such airline");
        }
        long pair = airlines.pairAt(k);
        return what == 2 ? Pair.square(pair) : Pair.piece(pair, what);
    }

    public int shorts() {
        collectNetBits();
        int found = 0;
        for (int i = 0; i < pieces.count; i++) {
            if (isShort(i)) {
                found++;
            }
        }
        return found;
    }

    public long short2(int k, int what) throws IndexOutOfBoundsException {
        checkWhat(what, 4);
        collectNetBits();
        int leader = leaderOfShort(k);
        if (leader == NONE) {
            throw new IndexOutOfBoundsException("no such short");
        }
        int nets = netBits[leader];
        switch (what) {
            case 0:
                return leadersBelow(leader);
            case 1:
                return lowestNet(nets);
            case 2:
                return lowestNet(nets & (nets - 1));
            default:
                return Pair.piece(joinThatShorted(leader), what - 3);
        }
    }

    public int unnamed(int k) {
        collectNetBits();
        int ahead = 0;
        for (int i = 0; i < pieces.count; i++) {
            if (kept.has(i) && netBits[kept.leaderOf(i)] == 0) {
                if (ahead == k) {
                    return i;
                }
                ahead++;
            }
        }
        return NONE;
    }

    public int line(int net, int k, int which) throws IndexOutOfBoundsException {
        checkNet(net);
        checkWhat(which, 1);
        drawAirlines(net);
        return airlines.has(k) ? Pair.piece(airlines.pairAt(k), which) : NONE;
    }

    public boolean drop(int shape) throws IndexOutOfBoundsException {
        checkPiece(shape);
        if (!pieces.isThere(shape)) {
            return false;
        }
        pieces.remove(shape);
        partWithout(shape);
        return true;
    }

    public boolean same() {
        spare.clear();
        for (int i = 0; i < pieces.count; i++) {
            if (pieces.isThere(i)) {
                enter(spare, i);
            }
        }
        return spare.isLike(kept);
    }

    public int unreached(int k) {
        int ahead = 0;
        for (int pin = 0; pin < PINS; pin++) {
            if (netOfPin[pin] != NONE && !pieces.hasPadOf(pin)) {
                if (ahead == k) {
                    return pin;
                }
                ahead++;
            }
        }
        return NONE;
    }

    public boolean exact() {
        if (shorts() != 0 || unreached(0) != NONE) {
            return false;
        }
        for (int net = 0; net < NETS; net++) {
            drawAirlines(net);
            if (airlines.count != 0) {
                return false;
            }
        }
        return true;
    }

    private void checkLayer(int layer) {
        if (layer < 0 || layer >= layers) {
            throw new IndexOutOfBoundsException("no such layer");
        }
    }

    private static void checkPin(int pin) {
        if (pin < 0 || pin >= PINS) {
            throw new IndexOutOfBoundsException("no such pin");
        }
    }

    private static boolean isNet(int net) {
        return net >= 0 && net < NETS;
    }

    private static void checkNet(int net) {
        if (!isNet(net)) {
            throw new IndexOutOfBoundsException("no such net");
        }
    }

    private void checkPiece(int piece) {
        if (piece < 0 || piece >= pieces.count) {
            throw new IndexOutOfBoundsException("no such piece");
        }
    }

    private static void checkWhat(int what, int last) {
        if (what < 0 || what > last) {
            throw new IndexOutOfBoundsException("nothing such to tell");
        }
    }

    private static void checkPlace(long x, long y) {
        if (x < -FARTHEST_PLACE || x > FARTHEST_PLACE || y < -FARTHEST_PLACE || y > FARTHEST_PLACE) {
            throw new IllegalArgumentException("no such place");
        }
    }

    private static void checkSize(long size) {
        if (size < 1 || size > LARGEST_SIZE) {
            throw new IllegalArgumentException("no such size");
        }
    }

    private int takeIn(int piece) {
        enter(kept, piece);
        return piece;
    }

    private void enter(Groups groups, int piece) {
        groups.begin(piece);
        for (int below = 0; below < piece; below++) {
            if (groups.has(below) && pieces.touch(below, piece)) {
                groups.join(below, piece);
            }
        }
    }

    // Only the copper net that lost the piece can fall apart, so only its pieces are joined anew.
    private void partWithout(int piece) {
        int leader = kept.leaderOf(piece);
        kept.leave(piece);
        spare.clear();
        for (int i = 0; i < pieces.count; i++) {
            if (kept.leaderOf(i) == leader) {
                enter(spare, i);
            }
        }
        for (int i = 0; i < pieces.count; i++) {
            if (spare.has(i)) {
                kept.follow(i, spare.leaderOf(i));
            }
        }
    }

    // A copper net's number is how many others have a lower lowest piece.
    private int leadersBelow(int piece) {
        int found = 0;
        for (int i = 0; i < piece; i++) {
            if (kept.leaderOf(i) == i) {
                found++;
            }
        }
        return found;
    }

    private int plannedNet(int piece) {
        int pin = pieces.pinOf(piece);
        return pin == NONE ? NONE : netOfPin[pin];
    }

    private int plannedBit(int piece) {
        int net = plannedNet(piece);
        return net == NONE ? 0 : 1 << net;
    }

    private void collectNetBits() {
        Arrays.fill(netBits, 0);
        for (int i = 0; i < pieces.count; i++) {
            if (kept.has(i)) {
                netBits[kept.leaderOf(i)] |= plannedBit(i);
            }
        }
    }

    private boolean isShort(int leader) {
        return Integer.bitCount(netBits[leader]) >= 2;
    }

    private int leaderOfShort(int k) {
        int ahead = 0;
        for (int i = 0; i < pieces.count; i++) {
            if (isShort(i)) {
                if (ahead == k) {
                    return i;
                }
                ahead++;
            }
        }
        return NONE;
    }

    private static int lowestNet(int nets) {
        for (int net = 0; net < NETS; net++) {
            if ((nets & (1 << net)) != 0) {
                return net;
            }
        }
        return NONE;
    }

    private long joinThatShorted(int leader) {
        spare.clear();
        for (int piece = 0; piece < pieces.count; piece++) {
            if (kept.leaderOf(piece) == leader) {
                spare.begin(piece);
                grownBits[piece] = plannedBit(piece);
                int below = belowThatShorts(piece);
                if (below != NONE) {
                    return Pair.of(0, below, piece);
                }
            }
        }
        return Pair.of(0, leader, leader);
    }

    private int belowThatShorts(int piece) {
        for (int below = 0; below < piece; below++) {
            if (spare.has(below) && pieces.touch(below, piece)) {
                int both = grownBits[spare.leaderOf(below)] | grownBits[spare.leaderOf(piece)];
                if (Integer.bitCount(both) >= 2) {
                    return below;
                }
                spare.join(below, piece);
                grownBits[spare.leaderOf(piece)] = both;
            }
        }
        return NONE;
    }

    private void drawAirlines(int net) {
        airlines.clear();
        for (int i = 0; i < pieces.count; i++) {
            if (kept.has(i) && plannedNet(i) == net) {
                airlines.addPad(i);
            }
        }
        airlines.draw(pieces, kept);
    }

    /**
     * Every piece is a rectangle with a rim around it: a shape has a rim of 0, and a disc is a
     * rectangle of no size with its radius as rim. So one rule tells for all kinds who touch.
     */
    private static final class Pieces {
        private int count = 0;
        private final boolean[] there = new boolean[MOST_PIECES];
        private final int[] from = new int[MOST_PIECES];
        private final int[] to = new int[MOST_PIECES];
        private final int[] pin = new int[MOST_PIECES];
        private final long[] left = new long[MOST_PIECES];
        private final long[] low = new long[MOST_PIECES];
        private final long[] right = new long[MOST_PIECES];
        private final long[] high = new long[MOST_PIECES];
        private final long[] rim = new long[MOST_PIECES];

        private boolean isFull() {
            return count >= MOST_PIECES;
        }

        private int addRectangle(int layer, long x, long y, long w, long h) {
            int piece = add(NONE, layer, layer);
            left[piece] = x;
            low[piece] = y;
            right[piece] = x + w;
            high[piece] = y + h;
            rim[piece] = 0;
            return piece;
        }

        private int addDisc(int ofPin, int fromLayer, int toLayer, long x, long y, long r) {
            int piece = add(ofPin, fromLayer, toLayer);
            left[piece] = x;
            low[piece] = y;
            right[piece] = x;
            high[piece] = y;
            rim[piece] = r;
            return piece;
        }

        private int add(int ofPin, int fromLayer, int toLayer) {
            int piece = count;
            count++;
            there[piece] = true;
            pin[piece] = ofPin;
            from[piece] = fromLayer;
            to[piece] = toLayer;
            return piece;
        }

        private void remove(int piece) {
            there[piece] = false;
        }

        private boolean isThere(int piece) {
            return there[piece];
        }

        private int pinOf(int piece) {
            return pin[piece];
        }

        private boolean hasPadOf(int ofPin) {
            for (int i = 0; i < count; i++) {
                if (there[i] && pin[i] == ofPin) {
                    return true;
                }
            }
            return false;
        }

        private boolean touch(int a, int b) {
            if (from[a] > to[b] || from[b] > to[a]) {
                return false;
            }
            long rims = rim[a] + rim[b];
            return square(a, b) <= rims * rims;
        }

        // Of two discs this is the square of the distance of their places.
        private long square(int a, int b) {
            long across = gap(left[a], right[a], left[b], right[b]);
            long along = gap(low[a], high[a], low[b], high[b]);
            return across * across + along * along;
        }

        private static long gap(long startA, long endA, long startB, long endB) {
            if (startB > endA) {
                return startB - endA;
            }
            return startA > endB ? startA - endB : 0;
        }
    }

    /** Groups of pieces; each piece in one knows its leader, the lowest piece of the group. */
    private static final class Groups {
        private final int[] leader = new int[MOST_PIECES];

        private Groups() {
            clear();
        }

        private void clear() {
            Arrays.fill(leader, NONE);
        }

        private boolean has(int piece) {
            return leader[piece] != NONE;
        }

        private int leaderOf(int piece) {
            return leader[piece];
        }

        private void begin(int piece) {
            leader[piece] = piece;
        }

        private void leave(int piece) {
            leader[piece] = NONE;
        }

        private void follow(int piece, int newLeader) {
            leader[piece] = newLeader;
        }

        private void join(int a, int b) {
            int stays = Math.min(leader[a], leader[b]);
            int yields = Math.max(leader[a], leader[b]);
            if (stays == yields) {
                return;
            }
            for (int i = yields; i < MOST_PIECES; i++) {
                if (leader[i] == yields) {
                    leader[i] = stays;
                }
            }
        }

        private boolean isLike(Groups other) {
            for (int i = 0; i < MOST_PIECES; i++) {
                if (leader[i] != other.leader[i]) {
                    return false;
                }
            }
            return true;
        }
    }

    /**
     * A square and two pieces in one number, so that numbers rise as the document orders pairs: by
     * the square, then by the lower piece, then by the other. A piece needs 6 bits, a square 37.
     */
    private static final class Pair {
        private static final int PIECE_BITS = 6;
        private static final long PIECE_MASK = (1L << PIECE_BITS) - 1;

        private static long of(long square, int a, int b) {
            long lower = Math.min(a, b);
            long other = Math.max(a, b);
            return (((square << PIECE_BITS) | lower) << PIECE_BITS) | other;
        }

        private static long square(long pair) {
            return pair >> (2 * PIECE_BITS);
        }

        private static int piece(long pair, int which) {
            return (int) ((which == 0 ? pair >> PIECE_BITS : pair) & PIECE_MASK);
        }
    }

    /**
     * The airlines of one net. No two pairs are equal in their order, so there is just one least
     * tree: growing it from one copper net finds the pairs that going through all of them in order
     * would find, and takes far fewer steps.
     */
    private static final class Airlines {
        private int count = 0;
        private final long[] pairs = new long[MOST_PIECES];
        private int padCount = 0;
        private final int[] pads = new int[MOST_PIECES];
        private final boolean[] reached = new boolean[MOST_PIECES];
        private final long[] nearest = new long[MOST_PIECES];

        private void clear() {
            count = 0;
            padCount = 0;
        }

        private void addPad(int piece) {
            if (padCount < MOST_PIECES) {
                pads[padCount] = piece;
                reached[padCount] = false;
                nearest[padCount] = Long.MAX_VALUE;
                padCount++;
            }
        }

        private boolean has(int k) {
            return k >= 0 && k < count;
        }

        private long pairAt(int k) {
            return pairs[k];
        }

        private void draw(Pieces pieces, Groups groups) {
            if (padCount == 0) {
                return;
            }
            reach(0, pieces, groups);
            for (int step = 1; step < padCount; step++) {
                int next = nearestPad();
                if (next == NONE) {
                    return;
                }
                insert(nearest[next]);
                reach(next, pieces, groups);
            }
        }

        private int nearestPad() {
            int best = NONE;
            for (int i = 0; i < padCount; i++) {
                if (!reached[i] && (best == NONE || nearest[i] < nearest[best])) {
                    best = i;
                }
            }
            return best;
        }

        // All pads of a copper net are reached before any of them looks for others, so that no
        // airline runs inside the net.
        private void reach(int pad, Pieces pieces, Groups groups) {
            int leader = groups.leaderOf(pads[pad]);
            for (int i = 0; i < padCount; i++) {
                if (groups.leaderOf(pads[i]) == leader) {
                    reached[i] = true;
                }
            }
            for (int i = 0; i < padCount; i++) {
                if (groups.leaderOf(pads[i]) == leader) {
                    lookFrom(pads[i], pieces);
                }
            }
        }

        private void lookFrom(int piece, Pieces pieces) {
            for (int i = 0; i < padCount; i++) {
                if (!reached[i]) {
                    long pair = Pair.of(pieces.square(piece, pads[i]), piece, pads[i]);
                    nearest[i] = Math.min(nearest[i], pair);
                }
            }
        }

        private void insert(long pair) {
            if (count >= MOST_PIECES) {
                return;
            }
            int at = count;
            for (int i = count; i > 0 && pairs[i - 1] > pair; i--) {
                pairs[i] = pairs[i - 1];
                at = i - 1;
            }
            pairs[at] = pair;
            count++;
        }
    }
}
