/** Promise 1, "Block 0 without ways": an object that is still empty. */
public final class Promise01NewObjectTest {
    public static void main(String[] args) {
        Check.sentence("promise 1, block 0 is there at first",
                Promise01NewObjectTest::block0IsThere);
        Check.sentence("promise 1, block 0 is reached by no way at all",
                Promise01NewObjectTest::block0IsReachedWithoutWays);
        Check.sentence("promise 1, without ways", Promise01NewObjectTest::withoutWays);
        Check.sentence("promise 1, no block but block 0", Promise01NewObjectTest::noOtherBlock);
        Check.sentence("promise 1, no way to cut or to turn",
                Promise01NewObjectTest::nothingToCutOrTurn);
        Check.sentence("promise 1, no loops and no edge", Promise01NewObjectTest::noLoopsAndNoEdge);
        Check.sentence("promise 1, what one object was told another does not know",
                Promise01NewObjectTest::eachObjectIsNew);
        Check.finish();
    }

    private static void block0IsThere() {
        Check.due("count(0)", 1, new BlockRuler().count(0));
        Check.due("look(0, 0)", 0, new BlockRuler().look(0, 0));
        Check.due("way(0, 0)", 0, new BlockRuler().way(0, 0));
    }

    private static void block0IsReachedWithoutWays() {
        Check.due("order(0)", 0, new BlockRuler().order(0));
        Check.due("at(0)", 0, new BlockRuler().at(0));
        Check.due("at(1)", -1, new BlockRuler().at(1));
        Check.due("count(2)", 1, new BlockRuler().count(2));
        Check.due("rules(0, 0)", true, new BlockRuler().rules(0, 0));
        Check.due("common(0, 0)", 0, new BlockRuler().common(0, 0));
        Check.due("parent(0)", -1, new BlockRuler().parent(0));
        Check.due("look(0, 5)", 1, new BlockRuler().look(0, 5));
        Check.due("look(0, 6)", 0, new BlockRuler().look(0, 6));
    }

    private static void withoutWays() {
        Check.due("count(1)", 0, new BlockRuler().count(1));
        for (int k = -1; k <= 8; k++) {
            Check.due("end(0, " + k + ")", -1, new BlockRuler().end(0, k));
            Check.due("sort(0, " + k + ")", -1, new BlockRuler().sort(0, k));
        }
    }

    private static void noOtherBlock() {
        for (int b : Samples.notOf(1)) {
            for (int what = -1; what <= 7; what++) {
                Check.due("look(" + b + ", " + what + ")", -1, new BlockRuler().look(b, what));
            }
            Check.due("order(" + b + ")", -1, new BlockRuler().order(b));
            Check.due("at(" + b + ")", -1, new BlockRuler().at(b));
            Check.refuses("way(" + b + ", 0)", IllegalArgumentException.class, BlockRuler::new,
                    x -> x.way(b, 0));
            Check.refuses("way(0, " + b + ")", IllegalArgumentException.class, BlockRuler::new,
                    x -> x.way(0, b));
        }
        Check.due("block()", 1, new BlockRuler().block());
    }

    private static void nothingToCutOrTurn() {
        for (int k = -1; k <= 8; k++) {
            int way = k;
            Check.refuses("cut(0, " + k + ")", IndexOutOfBoundsException.class, BlockRuler::new,
                    x -> x.cut(0, way));
            Check.refuses("turn(0, " + k + ", 0)", IndexOutOfBoundsException.class, BlockRuler::new,
                    x -> x.turn(0, way, 0));
        }
    }

    private static void noLoopsAndNoEdge() {
        int[] looks = {0, 0, 0, 0, -1, 1, 0};
        int[] counts = {1, 0, 1, 0, 0, 0, 0};
        for (int what = 0; what < 7; what++) {
            Check.due("look(0, " + what + ")", looks[what], new BlockRuler().look(0, what));
            Check.due("count(" + what + ")", counts[what], new BlockRuler().count(what));
        }
        Check.due("inLoop(0, 0)", false, new BlockRuler().inLoop(0, 0));
        Check.due("edge(0, 0)", -1, new BlockRuler().edge(0, 0));
    }

    private static void eachObjectIsNew() {
        Check.sameAnswers("a new object beside a full one", () -> {
            BlockRuler x = new BlockRuler();
            Samples.full().count(6);
            return x;
        }, BlockRuler::new);
        Check.sameAnswers("a new object behind a full one", () -> {
            Samples.full().count(6);
            return new BlockRuler();
        }, BlockRuler::new);
    }
}
