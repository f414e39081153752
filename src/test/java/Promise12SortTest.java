/**
 * Promise 12, "What way k of a block is: 0 it goes on, 1 back to a HEAD, 2 a KNOT; NONE if its block
 * is not reached, or there is none such."
 */
public final class Promise12SortTest {
    public static void main(String[] args) {
        Check.sentence("promise 12, 0 it goes on", Promise12SortTest::goesOn);
        Check.sentence("promise 12, 1 back to a HEAD", Promise12SortTest::backToAHead);
        Check.sentence("promise 12, a way to its own block is not to a later one",
                Promise12SortTest::notLaterMeansItselfToo);
        Check.sentence("promise 12, 2 a KNOT: its end does not rule its beginning",
                Promise12SortTest::aKnot);
        Check.sentence("promise 12, a KNOT also where its end is a HEAD by another way",
                Promise12SortTest::aKnotToAHead);
        Check.sentence("promise 12, way k, each by itself", Promise12SortTest::eachWayByItself);
        Check.sentence("promise 12, NONE if its block is not reached",
                Promise12SortTest::notReached);
        Check.sentence("promise 12, NONE if k is too small", Promise12SortTest::kTooSmall);
        Check.sentence("promise 12, NONE if k is too large", Promise12SortTest::kTooLarge);
        Check.sentence("promise 12, NONE if its block is not there",
                Promise12SortTest::noSuchBlock);
        Check.finish();
    }

    private static void goesOn() {
        BlockRuler x = Check.graph(4, 0, 1, 0, 2, 1, 3, 2, 3, 0, 3);
        Check.due("to a block met first", 0, x.sort(0, 0));
        Check.due("across", 0, x.sort(2, 0));
        Check.due("past others", 0, x.sort(0, 2));
        Check.due("in a row to the 64th", 0, Samples.row().sort(62, 0));
    }

    private static void backToAHead() {
        Check.due("sort(2, 0)", 1, Samples.mixed().sort(2, 0));
        Check.due("sort(3, 1)", 1, Samples.mixed().sort(3, 1));
        Check.due("to block 0", 1, Check.graph(3, 0, 1, 1, 2, 2, 0).sort(2, 0));
        BlockRuler x = Samples.row();
        x.way(63, 0);
        Check.due("from the 64th to block 0", 1, x.sort(63, 0));
    }

    private static void notLaterMeansItselfToo() {
        Check.due("sort(3, 0)", 1, Samples.mixed().sort(3, 0));
        Check.due("block 0 alone", 1, Check.graph(1, 0, 0).sort(0, 0));
    }

    private static void aKnot() {
        Check.due("sort(5, 0)", 2, Samples.mixed().sort(5, 0));
        Check.due("sort(4, 0) goes on", 0, Samples.mixed().sort(4, 0));
        BlockRuler x = Check.graph(4, 0, 1, 1, 2, 2, 3, 3, 1, 0, 2);
        Check.due("into the middle of a ring", 2, x.sort(3, 0));
        x.cut(0, 1);
        Check.due("with that way cut", 1, x.sort(3, 0));
    }

    private static void aKnotToAHead() {
        BlockRuler x = Check.graph(4, 0, 1, 1, 2, 2, 1, 1, 3, 3, 1, 0, 3);
        Check.due("sort(2, 0)", 1, x.sort(2, 0));
        Check.due("sort(3, 0)", 2, x.sort(3, 0));
        Check.due("look(1, 1)", 1, x.look(1, 1));
    }

    private static void eachWayByItself() {
        BlockRuler x = Samples.fan();
        for (int k = 0; k < 8; k++) {
            Check.due("sort(0, " + k + ")", k % 3 == 0 ? 1 : 0, x.sort(0, k));
        }
    }

    private static void notReached() {
        Check.answersNone("sort(6, 0), to one that is", Samples::mixed, x -> x.sort(6, 0));
        Check.answersNone("sort(6, 1), to itself", Samples::mixed, x -> x.sort(6, 1));
        BlockRuler x = Check.graph(2, 0, 1, 1, 0);
        Check.due("sort(1, 0)", 1, x.sort(1, 0));
        x.cut(0, 0);
        Check.due("sort(1, 0), cut off", -1, x.sort(1, 0));
    }

    private static void kTooSmall() {
        for (int k : new int[] {-1, -2, -8, -16, Integer.MIN_VALUE}) {
            Check.answersNone("sort(2, " + k + ")", Samples::mixed, x -> x.sort(2, k));
            Check.answersNone("sort(0, " + k + ")", Samples::mixed, x -> x.sort(0, k));
        }
    }

    private static void kTooLarge() {
        for (int k : Samples.notOf(2)) {
            Check.answersNone("sort(2, " + k + ")", Samples::mixed, x -> x.sort(2, k));
        }
        for (int k : Samples.notOf(8)) {
            Check.due("sort(0, " + k + ") with 8", -1, Samples.fan().sort(0, k));
            Check.due("sort(54, " + k + ") with 8", -1, Samples.full().sort(54, k));
        }
        Check.due("sort(1, 0) without ways", -1, Samples.fan().sort(1, 0));
    }

    private static void noSuchBlock() {
        for (int from : Samples.notOf(7)) {
            Check.answersNone("sort(" + from + ", 0)", Samples::mixed, x -> x.sort(from, 0));
        }
        for (int from : Samples.notOf(64)) {
            Check.due("sort(" + from + ", 0) with 64", -1, Samples.full().sort(from, 0));
        }
    }
}
