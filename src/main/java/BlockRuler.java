/**
 * Blocks of a program and the ways between them: their order, which block rules which, loops with
 * their heads, one in another, ways that make a knot, where what a block rules comes to its end.
 *
 * <p>A set of blocks is a long: block b is in it if bit b is set, which 64 blocks just fill.
 */
public final class BlockRuler {
    public static final int NONE = -1;

    private static final int MOST_BLOCKS = 64;
    private static final int MOST_WAYS = 8;

    /** Each step of the walk takes a way or leaves a block, and does so once for each. */
    private static final int MOST_STEPS = MOST_BLOCKS * (MOST_WAYS + 1);

    /** Each pass but the last takes a ruler from a block, and 64 blocks have at most 64 each. */
    private static final int MOST_PASSES = MOST_BLOCKS * MOST_BLOCKS + 1;

    private static final int GOES_ON = 0;
    private static final int BACK_TO_HEAD = 1;
    private static final int KNOT = 2;

    private final Web web;
    private final Walk walk;
    private final Rulers rulers;
    private final Loops loops;
    private boolean stale;

    public BlockRuler() {
        web = new Web();
        walk = new Walk(web);
        rulers = new Rulers(walk);
        loops = new Loops(web, walk, rulers);
        stale = true;
    }

    public int block() throws IllegalStateException {
        if (web.blocks >= MOST_BLOCKS) {
            throw new IllegalStateException("there are 64 blocks");
        }
        stale = true;
        return web.addBlock();
    }

    public int way(int from, int to) throws IllegalArgumentException, IllegalStateException {
        if (!web.hasBlock(from) || !web.hasBlock(to)) {
            throw new IllegalArgumentException("no such block");
        }
        if (web.degrees[from] >= MOST_WAYS) {
            throw new IllegalStateException("the block has 8 ways");
        }
        stale = true;
        return web.addWay(from, to);
    }

    public int cut(int from, int k) throws IndexOutOfBoundsException {
        if (!web.hasWay(from, k)) {
            throw new IndexOutOfBoundsException("no such way");
        }
        stale = true;
        return web.removeWay(from, k);
    }

    public int turn(int from, int k, int to)
            throws IndexOutOfBoundsException, IllegalArgumentException {
        if (!web.hasWay(from, k)) {
            throw new IndexOutOfBoundsException("no such way");
        }
        if (!web.hasBlock(to)) {
            throw new IllegalArgumentException("no such block");
        }
        stale = true;
        return web.moveWay(from, k, to);
    }

    public int end(int from, int k) {
        return web.hasWay(from, k) ? web.endOf(from, k) : NONE;
    }

    public int order(int block) {
        refresh();
        return web.hasBlock(block) ? walk.orders[block] : NONE;
    }

    public int at(int order) {
        refresh();
        return order >= 0 && order < walk.reached ? walk.blockAt(order) : NONE;
    }

    public int parent(int block) {
        refresh();
        return web.hasBlock(block) ? walk.lastOf(rulers.of[block] & ~only(block)) : NONE;
    }

    public boolean rules(int x, int y) {
        refresh();
        return web.hasBlock(x) && web.hasBlock(y) && rulers.isRuled(x, y);
    }

    public int common(int x, int y) throws IllegalArgumentException {
        refresh();
        if (!isReached(x) || !isReached(y)) {
            throw new IllegalArgumentException("a block that is not reached");
        }
        return walk.lastOf(rulers.of[x] & rulers.of[y]);
    }

    public int sort(int from, int k) {
        refresh();
        return isReached(from) && web.hasWay(from, k) ? loops.kindOf(from, k) : NONE;
    }

    public boolean inLoop(int head, int block) {
        refresh();
        return web.hasBlock(head) && web.hasBlock(block) && holds(loops.of[head], block);
    }

    public int look(int block, int what) {
        refresh();
        if (!web.hasBlock(block)) {
            return NONE;
        }
        switch (what) {
            case 0:
                return web.degrees[block];
            case 1:
                return loops.of[block] != 0 ? 1 : 0;
            case 2:
                return Long.bitCount(loops.of[block]);
            case 3:
                return loops.depthOf(block);
            case 4:
                return loops.innermostOf(block);
            case 5:
                return Long.bitCount(rulers.realmOf(block));
            case 6:
                return walk.comings[block];
            default:
                return NONE;
        }
    }

    public int edge(int block, int i) {
        refresh();
        return web.hasBlock(block) ? nth(rulers.edgeOf(block), i) : NONE;
    }

    public int count(int what) {
        refresh();
        switch (what) {
            case 0:
                return web.blocks;
            case 1:
                return web.ways;
            case 2:
                return walk.reached;
            case 3:
                return loops.heads;
            case 4:
                return loops.backs;
            case 5:
                return loops.knots;
            case 6:
                return loops.greatestDepth();
            default:
                return NONE;
        }
    }

    /** Runs of changes are told without questions between them, so only a question pays. */
    private void refresh() {
        if (stale) {
            walk.make();
            rulers.make();
            loops.make();
            stale = false;
        }
    }

    private boolean isReached(int block) {
        return web.hasBlock(block) && walk.orders[block] != NONE;
    }

    private static long only(int block) {
        return 1L << block;
    }

    private static boolean holds(long set, int block) {
        return ((set >>> block) & 1L) != 0;
    }

    /** The least block of a set that is not empty: the bits below its bit are as many as it is. */
    private static int least(long set) {
        return Long.bitCount((set & -set) - 1);
    }

    private static long withoutLeast(long set) {
        return set & (set - 1);
    }

    private static int nth(long set, int i) {
        if (i < 0 || i >= Long.bitCount(set)) {
            return NONE;
        }
        long rest = set;
        for (int passed = 0; passed < i; passed++) {
            rest = withoutLeast(rest);
        }
        return least(rest);
    }

    /** The blocks and ways as they were told. */
    private static final class Web {
        final int[] degrees;
        final int[] ends;
        int blocks;
        int ways;

        Web() {
            degrees = new int[MOST_BLOCKS];
            ends = new int[MOST_BLOCKS * MOST_WAYS];
            blocks = 1;
            ways = 0;
        }

        boolean hasBlock(int block) {
            return block >= 0 && block < blocks;
        }

        boolean hasWay(int from, int k) {
            return hasBlock(from) && k >= 0 && k < degrees[from];
        }

        int endOf(int from, int k) {
            return ends[from * MOST_WAYS + k];
        }

        int addBlock() {
            int added = blocks;
            blocks++;
            return added;
        }

        int addWay(int from, int to) {
            int k = degrees[from];
            ends[from * MOST_WAYS + k] = to;
            degrees[from]++;
            ways++;
            return k;
        }

        int removeWay(int from, int k) {
            int was = endOf(from, k);
            int first = from * MOST_WAYS;
            for (int behind = k + 1; behind < degrees[from]; behind++) {
                ends[first + behind - 1] = ends[first + behind];
            }
            degrees[from]--;
            ways--;
            return was;
        }

        int moveWay(int from, int k, int to) {
            int was = endOf(from, k);
            ends[from * MOST_WAYS + k] = to;
            return was;
        }
    }

    /** The way deep from block 0: what is reached, in which order, and from where. */
    private static final class Walk {
        final Web web;
        final int[] orders;
        final int[] left;
        final int[] open;
        final int[] taken;
        final long[] comers;
        final int[] comings;
        int reached;
        long reachedSet;

        Walk(Web web) {
            this.web = web;
            orders = new int[MOST_BLOCKS];
            left = new int[MOST_BLOCKS];
            open = new int[MOST_BLOCKS];
            taken = new int[MOST_BLOCKS];
            comers = new long[MOST_BLOCKS];
            comings = new int[MOST_BLOCKS];
            reached = 0;
            reachedSet = 0;
        }

        void make() {
            clear();
            goDeep();
            for (int number = 0; number < reached; number++) {
                int block = blockAt(number);
                orders[block] = number;
                markEndsOf(block);
            }
        }

        int blockAt(int number) {
            return left[reached - 1 - number];
        }

        /** The last block of a set in ORDER, which is the one that was left first. */
        int lastOf(long set) {
            for (int i = 0; i < reached; i++) {
                if (holds(set, left[i])) {
                    return left[i];
                }
            }
            return NONE;
        }

        private void clear() {
            reached = 0;
            for (int block = 0; block < MOST_BLOCKS; block++) {
                orders[block] = NONE;
                taken[block] = 0;
                comers[block] = 0;
                comings[block] = 0;
            }
        }

        /** A row of open blocks stands for recursion, which could go 64 levels deep. */
        private void goDeep() {
            reachedSet = only(0);
            open[0] = 0;
            int deep = 1;
            for (int step = 0; step < MOST_STEPS && deep > 0; step++) {
                int block = open[deep - 1];
                if (taken[block] >= web.degrees[block]) {
                    left[reached] = block;
                    reached++;
                    deep--;
                } else {
                    int next = web.endOf(block, taken[block]);
                    taken[block]++;
                    if (!holds(reachedSet, next)) {
                        reachedSet |= only(next);
                        open[deep] = next;
                        deep++;
                    }
                }
            }
        }

        private void markEndsOf(int block) {
            for (int k = 0; k < web.degrees[block]; k++) {
                int next = web.endOf(block, k);
                comers[next] |= only(block);
                comings[next]++;
            }
        }
    }

    /** For each block the set of those that rule it; an empty one for a block not reached. */
    private static final class Rulers {
        final Walk walk;
        final long[] of;

        Rulers(Walk walk) {
            this.walk = walk;
            of = new long[MOST_BLOCKS];
        }

        /** All is thought to rule all at first, and what a row of ways refutes is taken away. */
        void make() {
            for (int block = 0; block < MOST_BLOCKS; block++) {
                of[block] = holds(walk.reachedSet, block) ? walk.reachedSet : 0;
            }
            of[0] = only(0);
            boolean changed = true;
            for (int pass = 0; pass < MOST_PASSES && changed; pass++) {
                changed = narrow();
            }
        }

        boolean isRuled(int x, int y) {
            return holds(of[y], x);
        }

        long realmOf(int x) {
            long realm = 0;
            for (int y = 0; y < MOST_BLOCKS; y++) {
                if (isRuled(x, y)) {
                    realm |= only(y);
                }
            }
            return realm;
        }

        long edgeOf(int x) {
            long realm = realmOf(x);
            long inside = realm & ~only(x);
            long edge = 0;
            for (int y = 0; y < MOST_BLOCKS; y++) {
                if ((walk.comers[y] & realm) != 0 && !holds(inside, y)) {
                    edge |= only(y);
                }
            }
            return edge;
        }

        private boolean narrow() {
            boolean changed = false;
            for (int number = 1; number < walk.reached; number++) {
                int block = walk.blockAt(number);
                long narrowed = sharedBy(walk.comers[block]) | only(block);
                if (narrowed != of[block]) {
                    of[block] = narrowed;
                    changed = true;
                }
            }
            return changed;
        }

        private long sharedBy(long blocks) {
            long shared = walk.reachedSet;
            long rest = blocks;
            int many = Long.bitCount(blocks);
            for (int i = 0; i < many; i++) {
                shared &= of[least(rest)];
                rest = withoutLeast(rest);
            }
            return shared;
        }
    }

    /** For each head the set of blocks of its loop; an empty one for a block that is no head. */
    private static final class Loops {
        final Web web;
        final Walk walk;
        final Rulers rulers;
        final long[] of;
        int heads;
        int backs;
        int knots;

        Loops(Web web, Walk walk, Rulers rulers) {
            this.web = web;
            this.walk = walk;
            this.rulers = rulers;
            of = new long[MOST_BLOCKS];
            heads = 0;
            backs = 0;
            knots = 0;
        }

        void make() {
            clear();
            for (int number = 0; number < walk.reached; number++) {
                markWaysOf(walk.blockAt(number));
            }
            for (int block = 0; block < MOST_BLOCKS; block++) {
                if (of[block] != 0) {
                    heads++;
                    of[block] = grown(block, of[block]);
                }
            }
        }

        /** The way's block must be a reached one. */
        int kindOf(int from, int k) {
            int to = web.endOf(from, k);
            if (walk.orders[to] > walk.orders[from]) {
                return GOES_ON;
            }
            return rulers.isRuled(to, from) ? BACK_TO_HEAD : KNOT;
        }

        int depthOf(int block) {
            int depth = 0;
            for (int head = 0; head < MOST_BLOCKS; head++) {
                if (holds(of[head], block)) {
                    depth++;
                }
            }
            return depth;
        }

        int greatestDepth() {
            int greatest = 0;
            for (int block = 0; block < MOST_BLOCKS; block++) {
                greatest = Math.max(greatest, depthOf(block));
            }
            return greatest;
        }

        /** Later heads are looked at first, so that of equal loops the later head's stays. */
        int innermostOf(int block) {
            int innermost = NONE;
            int fewest = MOST_BLOCKS + 1;
            for (int number = walk.reached - 1; number >= 0; number--) {
                int head = walk.blockAt(number);
                int size = Long.bitCount(of[head]);
                if (holds(of[head], block) && size < fewest) {
                    innermost = head;
                    fewest = size;
                }
            }
            return innermost;
        }

        private void clear() {
            heads = 0;
            backs = 0;
            knots = 0;
            for (int block = 0; block < MOST_BLOCKS; block++) {
                of[block] = 0;
            }
        }

        /** Until the loops are grown, a head's set holds the beginnings of the ways back to it. */
        private void markWaysOf(int from) {
            for (int k = 0; k < web.degrees[from]; k++) {
                int kind = kindOf(from, k);
                if (kind != GOES_ON) {
                    backs++;
                }
                if (kind == KNOT) {
                    knots++;
                }
                if (kind == BACK_TO_HEAD) {
                    of[web.endOf(from, k)] |= only(from);
                }
            }
        }

        /** The head is in the loop from the start and never waits, so nothing goes through it. */
        private long grown(int head, long beginnings) {
            long loop = beginnings | only(head);
            long waiting = beginnings & ~only(head);
            for (int i = 0; i < MOST_BLOCKS && waiting != 0; i++) {
                long before = walk.comers[least(waiting)] & ~loop;
                loop |= before;
                waiting = withoutLeast(waiting) | before;
            }
            return loop;
        }
    }
}
