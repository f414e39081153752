/**
 * Promise 4, "Way k of a block goes; those behind it have a number less: where it ended.
 * IndexOutOfBoundsException if there is none such."
 */
public final class Promise04CutTest {
    private static final Class<IndexOutOfBoundsException> INDEX = IndexOutOfBoundsException.class;

    public static void main(String[] args) {
        Check.sentence("promise 4, where it ended", Promise04CutTest::whereItEnded);
        Check.sentence("promise 4, those behind it have a number less",
                Promise04CutTest::aNumberLess);
        Check.sentence("promise 4, also of the 64th block with 8 ways",
                Promise04CutTest::theLastBlockFull);
        Check.sentence("promise 4, of ways to the same block one goes",
                Promise04CutTest::oneOfTwins);
        Check.sentence("promise 4, the only way may go", Promise04CutTest::theOnlyOne);
        Check.sentence("promise 4, a block that is not reached has ways, too",
                Promise04CutTest::ofABlockNotReached);
        Check.sentence("promise 4, the way goes", Promise04CutTest::theWayIsGone);
        Check.sentence("promise 4, IndexOutOfBoundsException if k is too small",
                Promise04CutTest::kTooSmall);
        Check.sentence("promise 4, IndexOutOfBoundsException if k is too large",
                Promise04CutTest::kTooLarge);
        Check.sentence("promise 4, IndexOutOfBoundsException of a block without ways",
                Promise04CutTest::noWays);
        Check.sentence("promise 4, IndexOutOfBoundsException if the block is not there",
                Promise04CutTest::noSuchBlock);
        Check.finish();
    }

    /** Block 0 with ways to 1, 2, .. 8. */
    private static BlockRuler star() {
        return Check.graph(10, 0, 1, 0, 2, 0, 3, 0, 4, 0, 5, 0, 6, 0, 7, 0, 8, 1, 9, 1, 0);
    }

    private static void whereItEnded() {
        for (int k = 0; k < 8; k++) {
            Check.due("cut(0, " + k + ")", k + 1, star().cut(0, k));
        }
        Check.due("cut(54, 7)", Samples.fullEnd(54, 7), Samples.full().cut(54, 7));
    }

    private static void aNumberLess() {
        for (int cut = 0; cut < 8; cut++) {
            BlockRuler x = star();
            x.cut(0, cut);
            for (int k = 0; k < 7; k++) {
                int want = k < cut ? k + 1 : k + 2;
                Check.due("end(0, " + k + ") after cut(0, " + cut + ")", want, x.end(0, k));
            }
            Check.due("end(0, 7) after cut(0, " + cut + ")", -1, x.end(0, 7));
            Check.due("look(0, 0)", 7, x.look(0, 0));
            Check.due("count(1)", 9, x.count(1));
            Check.due("end(1, 0), another's", 9, x.end(1, 0));
            Check.due("end(1, 1), another's", 0, x.end(1, 1));
        }
    }

    private static void theLastBlockFull() {
        for (int cut = 0; cut < 8; cut++) {
            BlockRuler x = Samples.bare();
            for (int k = 0; k < 8; k++) {
                x.way(63, 10 + k);
            }
            Check.due("cut(63, " + cut + ")", 10 + cut, x.cut(63, cut));
            for (int k = 0; k < 7; k++) {
                Check.due("end(63, " + k + ")", k < cut ? 10 + k : 11 + k, x.end(63, k));
            }
            Check.due("end(63, 7)", -1, x.end(63, 7));
        }
    }

    private static void oneOfTwins() {
        BlockRuler x = Samples.fan();
        Check.due("cut(0, 1)", 1, x.cut(0, 1));
        Check.due("look(1, 6)", 2, x.look(1, 6));
        Check.due("order(1), reached still", 1, x.order(1));
    }

    private static void theOnlyOne() {
        BlockRuler x = Check.graph(2, 0, 1);
        Check.due("cut(0, 0)", 1, x.cut(0, 0));
        Check.due("count(1)", 0, x.count(1));
        Check.due("order(1)", -1, x.order(1));
        Check.dueThrow("cut(0, 0) again", INDEX, () -> x.cut(0, 0));
        Check.due("way(0, 0)", 0, x.way(0, 0));
    }

    private static void ofABlockNotReached() {
        BlockRuler x = Samples.mixed();
        Check.due("cut(6, 0)", 1, x.cut(6, 0));
        Check.due("end(6, 0)", 6, x.end(6, 0));
    }

    private static void theWayIsGone() {
        Check.follows("cut(0, 0)", Samples::mixed, x -> x.cut(0, 0), () -> Check.graph(
                7, 1, 2, 2, 1, 2, 3, 3, 3, 3, 1, 0, 4, 0, 5, 4, 5, 5, 4, 6, 1, 6, 6));
    }

    private static void kTooSmall() {
        for (int k : new int[] {-1, -2, -8, -16, Integer.MIN_VALUE}) {
            Check.refuses("cut(2, " + k + ")", INDEX, Samples::mixed, x -> x.cut(2, k));
            Check.refuses("cut(0, " + k + ")", INDEX, Samples::mixed, x -> x.cut(0, k));
        }
        Check.refuses("cut(54, -1)", INDEX, Samples::full, x -> x.cut(54, -1));
    }

    private static void kTooLarge() {
        for (int k : Samples.notOf(2)) {
            Check.refuses("cut(2, " + k + ")", INDEX, Samples::mixed, x -> x.cut(2, k));
        }
        for (int k : Samples.notOf(8)) {
            Check.refuses("cut(0, " + k + ")", INDEX, Samples::fan, x -> x.cut(0, k));
        }
        Check.refuses("cut(54, 8)", INDEX, Samples::full, x -> x.cut(54, 8));
    }

    private static void noWays() {
        for (int k = -1; k <= 8; k++) {
            int way = k;
            Check.refuses("cut(1, " + k + ")", INDEX, Samples::fan, x -> x.cut(1, way));
        }
        Check.refuses("cut(63, 0)", INDEX, Samples::full, x -> x.cut(63, 0));
    }

    private static void noSuchBlock() {
        for (int from : Samples.notOf(7)) {
            Check.refuses("cut(" + from + ", 0)", INDEX, Samples::mixed, x -> x.cut(from, 0));
            Check.refuses("cut(" + from + ", " + from + ")", INDEX, Samples::mixed,
                    x -> x.cut(from, from));
        }
        Check.refuses("cut(64, 0) with 64", INDEX, Samples::full, x -> x.cut(64, 0));
        Check.refuses("cut(-1, 0) with 64", INDEX, Samples::full, x -> x.cut(-1, 0));
    }
}
