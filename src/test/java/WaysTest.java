/** Promises 1 to 6: blocks and ways, and what is refused. */
public final class WaysTest {
    private static final Class<IllegalStateException> STATE = IllegalStateException.class;
    private static final Class<IllegalArgumentException> ARGUMENT = IllegalArgumentException.class;
    private static final Class<IndexOutOfBoundsException> INDEX = IndexOutOfBoundsException.class;
    private static final int[] FAR = {-1, 64, 65, Integer.MIN_VALUE, Integer.MAX_VALUE, 1 << 29};

    public static void main(String[] args) {
        promise1NewObject();
        promise2Block();
        promise3Way();
        promise4Cut();
        promise5Turn();
        promise6End();
        Check.finish();
    }

    private static void promise1NewObject() {
        BlockRuler x = new BlockRuler();
        int[] counts = {1, 0, 1, 0, 0, 0, 0};
        int[] looks = {0, 0, 0, 0, -1, 1, 0};
        for (int what = 0; what < 7; what++) {
            Check.due("new: count(" + what + ")", counts[what], x.count(what));
            Check.due("new: look(0, " + what + ")", looks[what], x.look(0, what));
        }
        Check.due("new: order", "0", Check.orderOf(x));
        Check.due("new: end(0, 0)", -1, x.end(0, 0));
        Check.due("new: parent(0)", -1, x.parent(0));
        Check.due("new: rules(0, 0)", true, x.rules(0, 0));
        Check.due("new: common(0, 0)", 0, x.common(0, 0));
        Check.due("new: edge of 0", "", Check.edgeOf(x, 0));
        Check.due("new: inLoop(0, 0)", false, x.inLoop(0, 0));
    }

    private static void promise2Block() {
        BlockRuler x = new BlockRuler();
        for (int b = 1; b < 64; b++) {
            Check.due("block()", b, x.block());
            Check.due("blocks", b + 1, x.count(0));
            Check.due("a new block's ways", 0, x.look(b, 0));
            Check.due("a new block is not reached", -1, x.order(b));
        }
        Check.dueThrow("the 65th block", STATE, x::block);
        Check.dueThrow("the 65th block again", STATE, x::block);
        Check.due("blocks after that", 64, x.count(0));
        Check.due("a block asked for before it is there", -1, new BlockRuler().look(1, 0));
    }

    private static void promise3Way() {
        BlockRuler x = Check.graph(3);
        for (int k = 0; k < 8; k++) {
            Check.due("way(2, ..)", k, x.way(2, k % 3));
        }
        Check.dueThrow("a ninth way", STATE, () -> x.way(2, 1));
        Check.dueThrow("no block and eight ways: told first", ARGUMENT, () -> x.way(2, 3));
        Check.dueThrow("way(3, 0)", ARGUMENT, () -> x.way(3, 0));
        Check.dueThrow("way(0, 3)", ARGUMENT, () -> x.way(0, 3));
        for (int far : FAR) {
            Check.dueThrow("way(far, 0)", ARGUMENT, () -> x.way(far, 0));
            Check.dueThrow("way(0, far)", ARGUMENT, () -> x.way(0, far));
        }
        Check.due("ways", 8, x.count(1));
        Check.due("ways of 0", 0, x.look(0, 0));
        Check.due("ways of 2", 8, x.look(2, 0));
        for (int k = 0; k < 8; k++) {
            Check.due("end(2, " + k + ")", k % 3, x.end(2, k));
        }
        Check.due("the same way twice", 0, x.way(0, 1));
        Check.due("the same way twice", 1, x.way(0, 1));
        Check.due("ways to 1", 2, x.look(1, 6));
        allBlocksWithAllWays();
    }

    /** Of 512 calls 63 make all blocks and 440 fill 55 of them, which leaves 9 to ask with. */
    private static void allBlocksWithAllWays() {
        for (int first : new int[] {0, 9}) {
            for (int from = first; from < first + 55; from++) {
                BlockRuler x = filled(first);
                for (int k = 0; k < 8; k++) {
                    Check.due("end(" + from + ", " + k + ")", filledEnd(from, k), x.end(from, k));
                }
            }
        }
        BlockRuler x = filled(9);
        for (int k = 0; k < 8; k++) {
            Check.due("cut the first of the last block", filledEnd(63, k), x.cut(63, 0));
        }
        Check.due("all ways but those", 432, x.count(1));
    }

    /** 64 blocks, of which 55 from one on have 8 ways. */
    private static BlockRuler filled(int first) {
        BlockRuler x = Check.graph(64);
        for (int i = 0; i < 440; i++) {
            Check.due("way " + i, i % 8, x.way(first + i / 8, filledEnd(first + i / 8, i % 8)));
        }
        return x;
    }

    private static int filledEnd(int from, int k) {
        return (from * 56 + k * 7 + 5) % 64;
    }

    private static void promise4Cut() {
        BlockRuler x = Check.graph(9, 0, 1, 0, 2, 0, 3, 0, 4, 0, 5, 0, 6, 0, 7, 0, 8, 1, 2);
        Check.due("cut in the middle", 4, x.cut(0, 3));
        Check.due("what was behind it", 5, x.end(0, 3));
        Check.due("what was before it", 3, x.end(0, 2));
        Check.due("the last now", 8, x.end(0, 6));
        Check.due("none behind it", -1, x.end(0, 7));
        Check.due("cut the last", 8, x.cut(0, 6));
        Check.due("cut the first", 1, x.cut(0, 0));
        Check.due("the first now", 2, x.end(0, 0));
        Check.due("another block's way stays", 2, x.end(1, 0));
        Check.due("ways", 6, x.count(1));
        Check.due("ways of 0", 5, x.look(0, 0));
        Check.due("a block that only the cut way reached", -1, x.order(4));
        Check.dueThrow("cut(0, 5)", INDEX, () -> x.cut(0, 5));
        Check.dueThrow("cut(2, 0)", INDEX, () -> x.cut(2, 0));
        Check.dueThrow("cut(9, 0)", INDEX, () -> x.cut(9, 0));
        for (int far : FAR) {
            Check.dueThrow("cut(far, 0)", INDEX, () -> x.cut(far, 0));
            Check.dueThrow("cut(0, far)", INDEX, () -> x.cut(0, far));
        }
        Check.due("ways after refusals", 6, x.count(1));
        Check.due("a way more goes behind", 5, x.way(0, 4));
    }

    private static void promise5Turn() {
        BlockRuler x = Check.graph(4, 0, 1, 0, 2, 1, 3);
        Check.due("turn(0, 1, 3)", 2, x.turn(0, 1, 3));
        Check.due("end(0, 1)", 3, x.end(0, 1));
        Check.due("end(0, 0)", 1, x.end(0, 0));
        Check.due("order(2)", -1, x.order(2));
        Check.due("to itself", 3, x.turn(0, 1, 0));
        Check.due("to where it ends already", 0, x.turn(0, 1, 0));
        Check.due("ways", 3, x.count(1));
        Check.dueThrow("no way", INDEX, () -> x.turn(0, 2, 1));
        Check.dueThrow("no way and no block: told first", INDEX, () -> x.turn(0, 2, 4));
        Check.dueThrow("no block from", INDEX, () -> x.turn(4, 0, 1));
        Check.dueThrow("no block to", ARGUMENT, () -> x.turn(0, 0, 4));
        for (int far : FAR) {
            Check.dueThrow("turn(far, 0, 0)", INDEX, () -> x.turn(far, 0, 0));
            Check.dueThrow("turn(0, far, 0)", INDEX, () -> x.turn(0, far, 0));
            Check.dueThrow("turn(0, 0, far)", ARGUMENT, () -> x.turn(0, 0, far));
        }
        Check.due("end(0, 0) after refusals", 1, x.end(0, 0));
        Check.due("order(1) after refusals", 1, x.order(1));
    }

    private static void promise6End() {
        BlockRuler x = Check.graph(3, 0, 2, 0, 0, 2, 1);
        Check.due("end(0, 0)", 2, x.end(0, 0));
        Check.due("end(0, 1)", 0, x.end(0, 1));
        Check.due("end(2, 0)", 1, x.end(2, 0));
        Check.due("end(0, 2)", -1, x.end(0, 2));
        Check.due("end(1, 0)", -1, x.end(1, 0));
        Check.due("end(1, -1), before it another's way", -1, x.end(1, -1));
        Check.due("end(0, 16), another's way in a row of eights", -1, x.end(0, 16));
        Check.due("end(3, 0)", -1, x.end(3, 0));
        for (int far : FAR) {
            Check.due("end(far, 0)", -1, x.end(far, 0));
            Check.due("end(0, far)", -1, x.end(0, far));
        }
    }
}
