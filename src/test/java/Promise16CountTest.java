/**
 * Promise 16, "what 0: blocks, 1: ways, 2: reached blocks, 3: HEADS, 4: ways BACK, 5: KNOTS, 6: the
 * greatest DEPTH. NONE for another what."
 */
public final class Promise16CountTest {
    public static void main(String[] args) {
        Check.sentence("promise 16, 0: blocks, reached or not", Promise16CountTest::what0Blocks);
        Check.sentence("promise 16, 1: ways, of blocks that are not reached, too",
                Promise16CountTest::what1Ways);
        Check.sentence("promise 16, 2: reached blocks", Promise16CountTest::what2Reached);
        Check.sentence("promise 16, 3: HEADS, each once", Promise16CountTest::what3Heads);
        Check.sentence("promise 16, 4: ways BACK, knots among them, each way by itself",
                Promise16CountTest::what4Back);
        Check.sentence("promise 16, 5: KNOTS, each way by itself", Promise16CountTest::what5Knots);
        Check.sentence("promise 16, 6: the greatest DEPTH, 0 without a loop",
                Promise16CountTest::what6GreatestDepth);
        Check.sentence("promise 16, of an object that is still empty",
                Promise16CountTest::anEmptyObject);
        Check.sentence("promise 16, of an object that is full", Promise16CountTest::aFullObject);
        Check.sentence("promise 16, NONE for another what", Promise16CountTest::anotherWhat);
        Check.finish();
    }

    private static void what0Blocks() {
        Check.due("one", 1, new BlockRuler().count(0));
        Check.due("seven", 7, Samples.mixed().count(0));
        Check.due("64 bare ones", 64, Samples.bare().count(0));
    }

    private static void what1Ways() {
        Check.due("mixed", 12, Samples.mixed().count(1));
        Check.due("none is reached", 3, Check.graph(3, 1, 2, 1, 2, 2, 2).count(1));
        BlockRuler x = Samples.mixed();
        x.cut(6, 0);
        Check.due("one cut", 11, x.count(1));
        x.turn(6, 0, 0);
        Check.due("one turned", 11, x.count(1));
        x.way(6, 0);
        Check.due("one more", 12, x.count(1));
    }

    private static void what2Reached() {
        Check.due("mixed", 6, Samples.mixed().count(2));
        Check.due("bare", 1, Samples.bare().count(2));
        Check.due("a row", 64, Samples.row().count(2));
        BlockRuler x = Samples.row();
        x.cut(31, 0);
        Check.due("a row cut in the middle", 32, x.count(2));
    }

    private static void what3Heads() {
        Check.due("mixed", 2, Samples.mixed().count(3));
        Check.due("two ways back to one", 1, Check.graph(3, 0, 1, 1, 2, 2, 1, 2, 1, 1, 1).count(3));
        Check.due("a knot's end is none", 0, Check.graph(3, 0, 1, 0, 2, 1, 2, 2, 1).count(3));
        Check.due("not reached", 0, Check.graph(2, 1, 1).count(3));
        Check.due("block 0", 1, Check.graph(1, 0, 0).count(3));
        Check.due("all 64", 64, allToThemselves().count(3));
    }

    private static BlockRuler allToThemselves() {
        BlockRuler x = Samples.row();
        for (int b = 0; b < 64; b++) {
            x.way(b, b);
        }
        return x;
    }

    private static void what4Back() {
        Check.due("mixed", 4, Samples.mixed().count(4));
        Check.due("the same twice", 3, Check.graph(3, 0, 1, 1, 2, 2, 1, 2, 1, 1, 1).count(4));
        Check.due("a knot", 1, Check.graph(3, 0, 1, 0, 2, 1, 2, 2, 1).count(4));
        Check.due("not reached", 0, Check.graph(3, 1, 1, 2, 1, 1, 0).count(4));
        Check.due("on alone", 0, Samples.row().count(4));
        Check.due("all 64", 64, allToThemselves().count(4));
    }

    private static void what5Knots() {
        Check.due("mixed", 1, Samples.mixed().count(5));
        Check.due("the same twice", 2, Check.graph(3, 0, 1, 0, 2, 1, 2, 2, 1, 2, 1).count(5));
        Check.due("not reached", 0, Check.graph(4, 3, 1, 3, 2, 1, 2, 2, 1).count(5));
        Check.due("back to heads", 0, allToThemselves().count(5));
    }

    private static void what6GreatestDepth() {
        Check.due("mixed", 2, Samples.mixed().count(6));
        Check.due("a knot alone", 0, Check.graph(3, 0, 1, 0, 2, 1, 2, 2, 1).count(6));
        Check.due("a row", 0, Samples.row().count(6));
        Check.due("block 0 alone is in one", 1, Check.graph(2, 0, 0, 0, 1).count(6));
        Check.due("the 64th block alone is in one", 1, lastToItself().count(6));
        Check.due("loops side by side", 1, allToThemselves().count(6));
        Check.due("not reached", 0, Check.graph(2, 1, 1).count(6));
        BlockRuler nest = Samples.row();
        for (int b = 63; b > 0; b--) {
            nest.way(b, b - 1);
        }
        Check.due("63 loops, one in another", 63, nest.count(6));
        nest.way(63, 63);
        Check.due("64 loops, one in another", 64, nest.count(6));
    }

    private static BlockRuler lastToItself() {
        BlockRuler x = Samples.row();
        x.way(63, 63);
        return x;
    }

    private static void anEmptyObject() {
        int[] want = {1, 0, 1, 0, 0, 0, 0};
        for (int what = 0; what < 7; what++) {
            Check.due("count(" + what + ")", want[what], new BlockRuler().count(what));
        }
    }

    private static void aFullObject() {
        BlockRuler x = Samples.bare();
        for (int i = 0; i < 448; i++) {
            x.way(i / 8, i % 8 == 0 ? i / 8 + 1 : i / 8);
        }
        Check.due("the 512th call: count(1)", 448, x.count(1));
        int[] want = {64, 440, 64};
        for (int what = 0; what < want.length; what++) {
            Check.due("count(" + what + ")", want[what], Samples.full().count(what));
        }
    }

    private static void anotherWhat() {
        for (int what : Samples.notOf(7)) {
            Check.answersNone("count(" + what + ")", Samples::mixed, x -> x.count(what));
            Check.due("count(" + what + "), alone", -1, new BlockRuler().count(what));
            Check.due("count(" + what + "), full", -1, Samples.full().count(what));
        }
    }
}
