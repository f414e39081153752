/**
 * Promise 14, "Of a block: what 0: how many ways it has, 1: 1 if it is a HEAD, 2: how many blocks its
 * LOOP has (0 without), 3: its DEPTH, 4: its INNERMOST head (NONE), 5: how many blocks it rules
 * (itself, too; 0 if it is not reached), 6: how many ways lead to it from reached blocks. NONE for
 * another block or what."
 */
public final class Promise14LookTest {
    public static void main(String[] args) {
        Check.sentence("promise 14, 0: how many ways it has", Promise14LookTest::what0Ways);
        Check.sentence("promise 14, 1: 1 if it is a HEAD", Promise14LookTest::what1Head);
        Check.sentence("promise 14, 2: how many blocks its LOOP has (0 without)",
                Promise14LookTest::what2Loop);
        Check.sentence("promise 14, 3: its DEPTH", Promise14LookTest::what3Depth);
        Check.sentence("promise 14, 4: its INNERMOST head, that of the least loop",
                Promise14LookTest::what4Innermost);
        Check.sentence("promise 14, 4: NONE if it is in no loop", Promise14LookTest::what4OfNone);
        Check.sentence("promise 14, 5: how many blocks it rules, itself, too",
                Promise14LookTest::what5Ruled);
        Check.sentence("promise 14, 5: 0 if it is not reached", Promise14LookTest::what5NotReached);
        Check.sentence("promise 14, 6: how many ways lead to it", Promise14LookTest::what6WaysToIt);
        Check.sentence("promise 14, 6: from reached blocks",
                Promise14LookTest::what6FromReachedBlocks);
        Check.sentence("promise 14, of a block that is there, but not reached",
                Promise14LookTest::notReached);
        Check.sentence("promise 14, NONE for another block", Promise14LookTest::anotherBlock);
        Check.sentence("promise 14, NONE for another what", Promise14LookTest::anotherWhat);
        Check.finish();
    }

    private static void looks(String name, BlockRuler x, int what, int... want) {
        for (int b = 0; b < want.length; b++) {
            Check.due(name + ", look(" + b + ", " + what + ")", want[b], x.look(b, what));
        }
    }

    private static void what0Ways() {
        looks("mixed", Samples.mixed(), 0, 3, 1, 2, 2, 1, 1, 2);
        looks("none and 8", Samples.fan(), 0, 8, 0, 0, 0);
        Check.due("look(54, 0) of full", 8, Samples.full().look(54, 0));
        Check.due("look(63, 0) of full", 0, Samples.full().look(63, 0));
    }

    private static void what1Head() {
        looks("mixed, a knot's end and one not reached", Samples.mixed(), 1, 0, 1, 0, 1, 0, 0, 0);
        looks("block 0", Check.graph(2, 0, 1, 1, 0), 1, 1, 0);
        looks("without ways", Check.graph(2), 1, 0, 0);
    }

    private static void what2Loop() {
        looks("mixed", Samples.mixed(), 2, 0, 3, 0, 1, 0, 0, 0);
        BlockRuler x = Samples.row();
        Check.due("no loop yet", 0, x.look(0, 2));
        x.way(63, 0);
        Check.due("a loop of 64", 64, x.look(0, 2));
        Check.due("in it, but no head", 0, x.look(63, 2));
        x.turn(63, 0, 63);
        Check.due("no loop more", 0, x.look(0, 2));
        Check.due("a loop of one", 1, x.look(63, 2));
    }

    private static void what3Depth() {
        looks("mixed", Samples.mixed(), 3, 0, 1, 1, 2, 0, 0, 0);
        BlockRuler row = Samples.row();
        for (int head = 0; head < 8; head++) {
            row.way(63, head);
            Check.due("depth of 63", head + 1, row.look(63, 3));
        }
        BlockRuler nest = nest();
        for (int b = 0; b < 64; b++) {
            Check.due("depth of " + b + " in a nest of 64", b + 1, nest.look(b, 3));
        }
    }

    /** Each block is the head of a loop of all that come behind it. */
    private static BlockRuler nest() {
        BlockRuler x = Samples.row();
        for (int b = 63; b > 0; b--) {
            x.way(b, b);
            x.way(b, b - 1);
        }
        x.way(0, 0);
        return x;
    }

    private static void what4Innermost() {
        looks("mixed", Samples.mixed(), 4, -1, 1, 1, 3, -1, -1, -1);
        looks("the inner head has the lower number", Check.graph(4, 0, 3, 3, 1, 1, 2, 2, 1, 2, 3), 4,
                -1, 1, 1, 3);
        looks("the inner head has the higher number", Check.graph(4, 0, 1, 1, 3, 3, 2, 2, 3, 2, 1), 4,
                -1, 1, 3, 3);
        looks("block 0", Check.graph(2, 0, 1, 1, 0), 4, 0, 0);
        BlockRuler nest = nest();
        for (int b = 0; b < 64; b++) {
            Check.due("innermost of " + b + " in a nest of 64", b, nest.look(b, 4));
        }
    }

    private static void what4OfNone() {
        for (int b : new int[] {0, 4, 5, 6}) {
            Check.answersNone("look(" + b + ", 4)", Samples::mixed, x -> x.look(b, 4));
        }
        Check.answersNone("look(0, 4), alone", BlockRuler::new, x -> x.look(0, 4));
    }

    private static void what5Ruled() {
        looks("mixed", Samples.mixed(), 5, 6, 3, 2, 1, 1, 1);
        BlockRuler row = Samples.row();
        for (int b = 0; b < 64; b++) {
            Check.due("look(" + b + ", 5) in a row", 64 - b, row.look(b, 5));
        }
        Check.due("look(0, 5), alone", 1, new BlockRuler().look(0, 5));
    }

    private static void what5NotReached() {
        Check.due("look(6, 5)", 0, Samples.mixed().look(6, 5));
        looks("bare", Samples.bare(), 5, 1, 0, 0);
        BlockRuler x = Check.graph(3, 0, 1, 1, 2);
        looks("reached", x, 5, 3, 2, 1);
        x.cut(0, 0);
        looks("cut off", x, 5, 1, 0, 0);
    }

    private static void what6WaysToIt() {
        looks("mixed", Samples.mixed(), 6, 0, 3, 1, 2, 2, 2);
        looks("each of several", Samples.fan(), 6, 3, 3, 2, 0);
        BlockRuler many = Check.graph(50);
        for (int b = 0; b < 49; b++) {
            many.way(b, b + 1);
        }
        for (int i = 0; i < 350; i++) {
            many.way(i / 7, 1);
        }
        Check.due("look(1, 6) of very many", 351, many.look(1, 6));
        Check.due("look(0, 6)", 0, many.look(0, 6));
    }

    private static void what6FromReachedBlocks() {
        BlockRuler x = Check.graph(3, 0, 1, 2, 1, 2, 1, 2, 2, 2, 0);
        looks("2 is not reached", x, 6, 0, 1, 0);
        x.way(1, 2);
        looks("2 is reached", x, 6, 1, 3, 2);
    }

    private static void notReached() {
        int[] want = {2, 0, 0, 0, -1, 0, 0};
        for (int what = 0; what < 7; what++) {
            Check.due("look(6, " + what + ")", want[what], Samples.mixed().look(6, what));
        }
    }

    private static void anotherBlock() {
        for (int b : Samples.notOf(7)) {
            for (int what = -1; what <= 7; what++) {
                Check.due("look(" + b + ", " + what + ")", -1, Samples.mixed().look(b, what));
            }
            Check.answersNone("look(" + b + ", 0)", Samples::mixed, x -> x.look(b, 0));
        }
        for (int b : Samples.notOf(64)) {
            for (int what = 0; what < 7; what++) {
                Check.due("look(" + b + ", " + what + ") with 64", -1, Samples.full().look(b, what));
            }
        }
    }

    private static void anotherWhat() {
        for (int what : Samples.notOf(7)) {
            for (int b = 0; b < 7; b++) {
                Check.due("look(" + b + ", " + what + ")", -1, Samples.mixed().look(b, what));
            }
            Check.answersNone("look(3, " + what + ")", Samples::mixed, x -> x.look(3, what));
        }
    }
}
