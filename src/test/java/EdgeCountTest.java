/** Promises 15 and 16: edges and counts. */
public final class EdgeCountTest {
    private static final int[] FAR = {-1, 64, 65, Integer.MIN_VALUE, Integer.MAX_VALUE};

    public static void main(String[] args) {
        promise15Edge();
        promise16Count();
        greatestDepthAtBlock0();
        deepestNest();
        Check.finish();
    }

    private static void promise15Edge() {
        BlockRuler x = Check.graph(8, 0, 1, 1, 2, 1, 3, 2, 4, 3, 4, 4, 5, 5, 1, 6, 4, 6, 7, 7, 6);
        String[] edges = {"", "1", "4", "4", "1", "1", "", "", ""};
        for (int b = 0; b < edges.length; b++) {
            Check.due("edge of " + b, edges[b], Check.edgeOf(x, b));
        }
        x.way(3, 2);
        x.way(3, 0);
        Check.due("edge of 3, by number", "0 2 4", Check.edgeOf(x, 3));
        Check.due("edge of 0, itself", "0", Check.edgeOf(x, 0));
        Check.due("edge of 1", "0 1", Check.edgeOf(x, 1));
        Check.due("edge(3, 3)", -1, x.edge(3, 3));
        x.way(3, 4);
        Check.due("edge of 3, two ways to one block", "0 2 4", Check.edgeOf(x, 3));
        for (int far : FAR) {
            Check.due("edge(far, 0)", -1, x.edge(far, 0));
            Check.due("edge(3, far)", -1, x.edge(3, far));
        }
        theHighestBlock();
    }

    private static void theHighestBlock() {
        BlockRuler x = Check.graph(64, 0, 63, 63, 63, 63, 62, 62, 62, 62, 63);
        Check.due("edge of 63", "63", Check.edgeOf(x, 63));
        Check.due("edge of 62", "62 63", Check.edgeOf(x, 62));
        Check.due("loop of 63", "62 63", Check.loopOf(x, 63));
        Check.due("parent(62)", 63, x.parent(62));
        Check.due("innermost of 62", 62, x.look(62, 4));
    }

    private static void promise16Count() {
        BlockRuler x = Check.graph(7, 0, 1, 1, 2, 2, 1, 2, 3, 3, 3, 3, 1, 0, 4, 0, 5, 4, 5, 5, 4, 6, 1, 6, 6);
        int[] counts = {7, 12, 6, 2, 4, 1, 2};
        for (int what = 0; what < 7; what++) {
            Check.due("count(" + what + ")", counts[what], x.count(what));
        }
        Check.due("count(7)", -1, x.count(7));
        for (int far : FAR) {
            Check.due("count(far)", -1, x.count(far));
        }
        x.cut(0, 0);
        int[] later = {7, 11, 3, 0, 1, 1, 0};
        for (int what = 0; what < 7; what++) {
            Check.due("count(" + what + ") after a cut", later[what], x.count(what));
        }
    }

    private static void greatestDepthAtBlock0() {
        BlockRuler x = Check.graph(2, 0, 0, 0, 1);
        Check.due("greatest depth", 1, x.count(6));
        Check.due("heads", 1, x.count(3));
        x.cut(0, 0);
        Check.due("greatest depth without a loop", 0, x.count(6));
        Check.due("heads without a loop", 0, x.count(3));
    }

    /** Each block is the head of a loop that ends with the last block: 64 loops, one in another. */
    private static void deepestNest() {
        BlockRuler x = Check.graph(64);
        for (int b = 0; b < 63; b++) {
            x.way(b, b + 1);
        }
        for (int b = 63; b >= 0; b--) {
            x.way(b, b);
            if (b > 0) {
                x.way(b, b - 1);
            }
        }
        Check.due("heads", 64, x.count(3));
        Check.due("ways back", 127, x.count(4));
        Check.due("knots", 0, x.count(5));
        Check.due("depth", 64, x.count(6));
        Check.due("depth of 63", 64, x.look(63, 3));
        Check.due("loop of 0", 64, x.look(0, 2));
        Check.due("innermost of 63", 63, x.look(63, 4));
    }
}
