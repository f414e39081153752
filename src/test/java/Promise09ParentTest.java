/** Promise 9, "A block's PARENT; NONE of block 0, of one that is not reached or not there." */
public final class Promise09ParentTest {
    public static void main(String[] args) {
        Check.sentence("promise 9, the parent is one of those that rule it",
                Promise09ParentTest::ofThoseThatRuleIt);
        Check.sentence("promise 9, but itself", Promise09ParentTest::butItself);
        Check.sentence("promise 9, the last in order, not by number",
                Promise09ParentTest::theLastInOrder);
        Check.sentence("promise 9, NONE of block 0", Promise09ParentTest::noneOfBlock0);
        Check.sentence("promise 9, NONE of one that is not reached",
                Promise09ParentTest::notReached);
        Check.sentence("promise 9, NONE of one that is not there", Promise09ParentTest::notThere);
        Check.sentence("promise 9, with 63 others that rule it",
                Promise09ParentTest::inTheLongestRow);
        Check.finish();
    }

    private static void parents(String what, BlockRuler x, int... want) {
        for (int b = 0; b < want.length; b++) {
            Check.due(what + ", parent(" + b + ")", want[b], x.parent(b));
        }
    }

    private static void ofThoseThatRuleIt() {
        parents("mixed", Samples.mixed(), -1, 0, 1, 2, 0, 0, -1);
        parents("a diamond", Check.graph(5, 0, 1, 1, 2, 1, 3, 2, 4, 3, 4), -1, 0, 1, 1, 1);
        parents("a way round", Check.graph(4, 0, 1, 1, 2, 2, 3, 0, 3), -1, 0, 1, 0);
    }

    private static void butItself() {
        parents("ways to themselves", Check.graph(3, 0, 0, 0, 1, 1, 1, 1, 2, 2, 2), -1, 0, 1);
    }

    private static void theLastInOrder() {
        parents("down", Check.graph(4, 0, 3, 3, 2, 2, 1), -1, 2, 3, 0);
        parents("mixed numbers", Check.graph(5, 0, 2, 2, 4, 4, 1, 1, 3), -1, 4, 0, 1, 2);
    }

    private static void noneOfBlock0() {
        Check.answersNone("parent(0)", Samples::mixed, x -> x.parent(0));
        Check.answersNone("parent(0), ways to it", () -> Check.graph(3, 0, 0, 0, 1, 1, 0, 1, 2, 2, 0),
                x -> x.parent(0));
        Check.answersNone("parent(0), alone", BlockRuler::new, x -> x.parent(0));
        Check.due("parent(0) with 64", -1, Samples.full().parent(0));
    }

    private static void notReached() {
        Check.answersNone("parent(6)", Samples::mixed, x -> x.parent(6));
        parents("behind one not reached", Check.graph(4, 1, 2, 2, 3, 3, 1), -1, -1, -1, -1);
        BlockRuler x = Check.graph(3, 0, 1, 1, 2);
        parents("a row", x, -1, 0, 1);
        x.cut(0, 0);
        parents("cut", x, -1, -1, -1);
    }

    private static void notThere() {
        for (int b : Samples.notOf(7)) {
            Check.answersNone("parent(" + b + ")", Samples::mixed, x -> x.parent(b));
        }
        for (int b : Samples.notOf(64)) {
            Check.due("parent(" + b + ") with 64", -1, Samples.row().parent(b));
        }
    }

    private static void inTheLongestRow() {
        BlockRuler x = Samples.row();
        for (int b = 0; b < 64; b++) {
            Check.due("parent(" + b + ")", b - 1, x.parent(b));
        }
    }
}
