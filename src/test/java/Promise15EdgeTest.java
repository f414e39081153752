/** Promise 15, "The i-th block (by number) of the EDGE of a block; NONE if there is none." */
public final class Promise15EdgeTest {
    public static void main(String[] args) {
        Check.sentence("promise 15, a way leads there from a block that X rules",
                Promise15EdgeTest::fromABlockThatXRules);
        Check.sentence("promise 15, what X rules is not on its edge",
                Promise15EdgeTest::notRuledByX);
        Check.sentence("promise 15, X itself is on it if a way leads back",
                Promise15EdgeTest::xItself);
        Check.sentence("promise 15, by number, not by order", Promise15EdgeTest::byNumber);
        Check.sentence("promise 15, a block is on it once, by how many ways it may be",
                Promise15EdgeTest::eachBlockOnce);
        Check.sentence("promise 15, ways from what is not reached count not",
                Promise15EdgeTest::reachedBlocksOnly);
        Check.sentence("promise 15, NONE if i is too small", Promise15EdgeTest::iTooSmall);
        Check.sentence("promise 15, NONE if i is too large", Promise15EdgeTest::iTooLarge);
        Check.sentence("promise 15, NONE if the edge is empty", Promise15EdgeTest::anEmptyEdge);
        Check.sentence("promise 15, NONE of a block that is not reached",
                Promise15EdgeTest::ofABlockNotReached);
        Check.sentence("promise 15, NONE of a block that is not there",
                Promise15EdgeTest::ofABlockNotThere);
        Check.sentence("promise 15, an edge of all that can be on it",
                Promise15EdgeTest::theWidestEdge);
        Check.finish();
    }

    private static void edge(String what, BlockRuler x, int block, String want) {
        Check.due(what + ", edge of " + block, want, Check.edgeOf(x, block));
    }

    private static void fromABlockThatXRules() {
        BlockRuler x = Check.graph(5, 0, 1, 0, 4, 1, 2, 2, 3, 3, 4);
        edge("from X", x, 3, "4");
        edge("from one that X rules", x, 1, "4");
        edge("from none", x, 4, "");
    }

    private static void notRuledByX() {
        edge("all ruled", Check.graph(4, 0, 1, 1, 2, 1, 3, 2, 3), 1, "");
        edge("all but one", Check.graph(4, 0, 1, 1, 2, 1, 3, 2, 3, 0, 3), 1, "3");
        edge("0 rules all", Samples.mixed(), 0, "");
    }

    private static void xItself() {
        edge("mixed", Samples.mixed(), 1, "1");
        edge("mixed", Samples.mixed(), 3, "1 3");
        edge("block 0", Check.graph(2, 0, 1, 1, 0), 0, "0");
        edge("a way to itself", Check.graph(2, 0, 1, 1, 1), 1, "1");
    }

    private static void byNumber() {
        BlockRuler x = Check.graph(6, 0, 1, 0, 5, 0, 4, 0, 3, 0, 2, 1, 4, 1, 5, 1, 2, 1, 3, 1, 0);
        edge("five", x, 1, "0 2 3 4 5");
        Check.due("edge(1, 0), the first is the 0th", 0, x.edge(1, 0));
        Check.due("edge(1, 4)", 5, x.edge(1, 4));
    }

    private static void eachBlockOnce() {
        edge("twice from one", Check.graph(3, 0, 1, 0, 2, 1, 2, 1, 2), 1, "2");
        edge("from two", Check.graph(4, 0, 1, 0, 3, 1, 2, 1, 3, 2, 3), 1, "3");
    }

    private static void reachedBlocksOnly() {
        BlockRuler x = Check.graph(4, 0, 1, 1, 2, 3, 2, 3, 1);
        edge("3 is not reached", x, 1, "");
        edge("3 is not reached", x, 3, "");
        x.way(2, 3);
        edge("3 is reached", x, 1, "1");
        edge("3 is reached", x, 3, "1 2");
    }

    private static void iTooSmall() {
        for (int i : new int[] {-1, -2, -64, Integer.MIN_VALUE}) {
            Check.answersNone("edge(3, " + i + ")", Samples::mixed, x -> x.edge(3, i));
        }
    }

    private static void iTooLarge() {
        for (int i : Samples.notOf(2)) {
            Check.answersNone("edge(3, " + i + ")", Samples::mixed, x -> x.edge(3, i));
        }
    }

    private static void anEmptyEdge() {
        for (int i = -1; i <= 64; i++) {
            Check.due("edge(0, " + i + ")", -1, Samples.mixed().edge(0, i));
            Check.due("edge(0, " + i + "), alone", -1, new BlockRuler().edge(0, i));
            Check.due("edge(63, " + i + ") in a row", -1, Samples.row().edge(63, i));
        }
    }

    private static void ofABlockNotReached() {
        for (int number = -1; number <= 7; number++) {
            int i = number;
            Check.answersNone("edge(6, " + i + ")", Samples::mixed, x -> x.edge(6, i));
        }
    }

    private static void ofABlockNotThere() {
        for (int b : Samples.notOf(7)) {
            Check.answersNone("edge(" + b + ", 0)", Samples::mixed, x -> x.edge(b, 0));
        }
        for (int b : Samples.notOf(64)) {
            Check.due("edge(" + b + ", 0) with 64", -1, widest().edge(b, 0));
        }
    }

    /** Block 1 rules 1 to 8, and from these ways lead to 1 and to all that it does not rule. */
    private static BlockRuler widest() {
        BlockRuler x = Check.graph(64, 0, 1, 0, 9);
        for (int b = 9; b < 63; b++) {
            x.way(b, b + 1);
        }
        for (int b = 1; b < 8; b++) {
            x.way(b, b + 1);
        }
        for (int i = 0; i < 57; i++) {
            x.way(Math.min(1 + i / 7, 8), onTheEdge(56 - i));
        }
        return x;
    }

    private static int onTheEdge(int i) {
        return i < 2 ? i : i + 7;
    }

    private static void theWidestEdge() {
        BlockRuler x = widest();
        Check.due("look(1, 5)", 8, x.look(1, 5));
        for (int i = 0; i < 57; i++) {
            Check.due("edge(1, " + i + ")", onTheEdge(i), x.edge(1, i));
        }
        for (int i = 57; i <= 130; i++) {
            Check.due("edge(1, " + i + ")", -1, x.edge(1, i));
        }
        Check.due("edge(1, -1)", -1, x.edge(1, -1));
    }
}
