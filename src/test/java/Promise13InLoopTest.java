/** Promise 13, "Whether a block is in the LOOP of a head; false if that is no head." */
public final class Promise13InLoopTest {
    public static void main(String[] args) {
        Check.sentence("promise 13, the head is in its loop", Promise13InLoopTest::theHeadIsIn);
        Check.sentence("promise 13, the beginnings of ways back to it are in",
                Promise13InLoopTest::theBeginningsAreIn);
        Check.sentence("promise 13, the beginning of a knot is not in by it",
                Promise13InLoopTest::noKnotsBeginnings);
        Check.sentence("promise 13, the blocks from which ways lead to a beginning are in",
                Promise13InLoopTest::whatLeadsToABeginning);
        Check.sentence("promise 13, reached blocks only", Promise13InLoopTest::reachedBlocksOnly);
        Check.sentence("promise 13, what leads to the head itself is not in by that",
                Promise13InLoopTest::butToTheHeadItself);
        Check.sentence("promise 13, not what leads there through the head",
                Promise13InLoopTest::notThroughTheHead);
        Check.sentence("promise 13, a knot's blocks inside are in",
                Promise13InLoopTest::aKnotInside);
        Check.sentence("promise 13, false if that is no head", Promise13InLoopTest::noHead);
        Check.sentence("promise 13, false if the head is not there",
                Promise13InLoopTest::headNotThere);
        Check.sentence("promise 13, false if the block is not there",
                Promise13InLoopTest::blockNotThere);
        Check.sentence("promise 13, a loop of 64", Promise13InLoopTest::all64);
        Check.finish();
    }

    private static void loop(String what, BlockRuler x, int head, String want) {
        Check.due(what + ", loop of " + head, want, Check.loopOf(x, head));
    }

    private static void theHeadIsIn() {
        Check.due("inLoop(1, 1)", true, Samples.mixed().inLoop(1, 1));
        Check.due("inLoop(3, 3)", true, Samples.mixed().inLoop(3, 3));
        Check.due("block 0", true, Check.graph(1, 0, 0).inLoop(0, 0));
    }

    private static void theBeginningsAreIn() {
        loop("two of them", Check.graph(4, 0, 1, 1, 2, 1, 3, 2, 1, 3, 1), 1, "1 2 3");
        loop("mixed", Samples.mixed(), 1, "1 2 3");
    }

    private static void noKnotsBeginnings() {
        BlockRuler x = Check.graph(4, 0, 1, 1, 2, 2, 1, 1, 3, 3, 1, 0, 3);
        loop("a knot to a head", x, 1, "1 2");
        loop("knots alone", Check.graph(3, 0, 1, 0, 2, 1, 2, 2, 1), 1, "");
    }

    private static void whatLeadsToABeginning() {
        loop("a long one and a way out", Check.graph(7, 0, 1, 1, 2, 2, 3, 3, 4, 4, 5, 5, 1, 3, 6), 1,
                "1 2 3 4 5");
        loop("a diamond", Check.graph(6, 0, 1, 1, 2, 1, 3, 2, 4, 3, 4, 4, 1, 4, 5), 1, "1 2 3 4");
        loop("one in another", Check.graph(4, 0, 1, 1, 2, 2, 3, 3, 2, 3, 1), 1, "1 2 3");
    }

    private static void reachedBlocksOnly() {
        BlockRuler x = Check.graph(5, 0, 1, 1, 2, 2, 1, 3, 2, 4, 1);
        loop("from 3 a way leads to a beginning", x, 1, "1 2");
        x.way(1, 3);
        loop("3 is reached", x, 1, "1 2 3");
        x.way(3, 4);
        loop("4 is reached", x, 1, "1 2 3 4");
    }

    private static void butToTheHeadItself() {
        BlockRuler x = Check.graph(4, 0, 1, 1, 1, 1, 2, 0, 3, 3, 1);
        loop("a way to itself", x, 1, "1");
        x.way(2, 1);
        loop("and a way back", x, 1, "1 2");
    }

    private static void notThroughTheHead() {
        loop("0 leads through 1", Check.graph(4, 0, 3, 3, 1, 1, 2, 2, 1), 1, "1 2");
        loop("an outer loop", Check.graph(4, 0, 1, 1, 2, 2, 3, 3, 2, 3, 1), 2, "2 3");
    }

    private static void aKnotInside() {
        BlockRuler x = Check.graph(5, 0, 1, 1, 2, 1, 3, 2, 3, 3, 2, 3, 4, 4, 1);
        loop("a knot of 2 and 3", x, 1, "1 2 3 4");
    }

    private static void noHead() {
        for (int head : new int[] {0, 2, 4, 5, 6}) {
            for (int b = 0; b < 7; b++) {
                int block = b;
                Check.answersFalse("inLoop(" + head + ", " + b + ")", Samples::mixed,
                        x -> x.inLoop(head, block) ? 1 : 0);
            }
        }
        BlockRuler x = Check.graph(2, 0, 1, 1, 0);
        loop("a head", x, 0, "0 1");
        x.cut(1, 0);
        loop("a head no more", x, 0, "");
        BlockRuler last = Samples.row();
        last.way(63, 63);
        loop("the 64th block", last, 63, "63");
        last.cut(63, 0);
        loop("the 64th block no more", last, 63, "");
    }

    private static void headNotThere() {
        for (int b : Samples.notOf(7)) {
            Check.answersFalse("inLoop(" + b + ", 1)", Samples::mixed, x -> x.inLoop(b, 1) ? 1 : 0);
            Check.answersFalse("inLoop(" + b + ", itself)", Samples::mixed,
                    x -> x.inLoop(b, b) ? 1 : 0);
        }
    }

    private static void blockNotThere() {
        for (int b : Samples.notOf(7)) {
            Check.answersFalse("inLoop(1, " + b + ")", Samples::mixed, x -> x.inLoop(1, b) ? 1 : 0);
        }
        for (int b : Samples.notOf(64)) {
            Check.due("inLoop(0, " + b + ") with 64", false, ring().inLoop(0, b));
            Check.due("inLoop(" + b + ", 0) with 64", false, ring().inLoop(b, 0));
        }
        Check.due("inLoop(3, 67), which wraps to 3", false, Samples.mixed().inLoop(3, 67));
        Check.due("inLoop(1, -63), which wraps to 1", false, Samples.mixed().inLoop(1, -63));
    }

    private static BlockRuler ring() {
        BlockRuler x = Samples.row();
        x.way(63, 0);
        return x;
    }

    private static void all64() {
        BlockRuler x = ring();
        for (int b = 0; b < 64; b++) {
            Check.due("inLoop(0, " + b + ")", true, x.inLoop(0, b));
            Check.due("inLoop(" + b + ", 63)", b == 0, x.inLoop(b, 63));
        }
    }
}
