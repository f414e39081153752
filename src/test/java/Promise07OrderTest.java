/** Promise 7, "A block's number in ORDER; NONE if it is not reached, or there is none such." */
public final class Promise07OrderTest {
    public static void main(String[] args) {
        Check.sentence("promise 7, a block's number in ORDER", Promise07OrderTest::itsNumber);
        Check.sentence("promise 7, block 0 has 0", Promise07OrderTest::block0HasZero);
        Check.sentence("promise 7, go deep along the ways", Promise07OrderTest::deepAlongTheWays);
        Check.sentence("promise 7, the ways as they stand", Promise07OrderTest::asTheyStand);
        Check.sentence("promise 7, blocks met already are passed over",
                Promise07OrderTest::metAlreadyArePassedOver);
        Check.sentence("promise 7, opposite to that in which blocks are left",
                Promise07OrderTest::oppositeToLeaving);
        Check.sentence("promise 7, NONE if it is not reached", Promise07OrderTest::neverReached);
        Check.sentence("promise 7, NONE if it is reached no more",
                Promise07OrderTest::reachedNoMore);
        Check.sentence("promise 7, NONE if there is none such", Promise07OrderTest::noSuchBlock);
        Check.finish();
    }

    private static void orders(String what, BlockRuler x, int... want) {
        for (int b = 0; b < want.length; b++) {
            Check.due(what + ", order(" + b + ")", want[b], x.order(b));
        }
    }

    private static void itsNumber() {
        orders("mixed", Samples.mixed(), 0, 3, 4, 5, 1, 2, -1);
        BlockRuler row = Samples.row();
        for (int b = 0; b < 64; b++) {
            Check.due("order(" + b + ") in a row", b, row.order(b));
        }
    }

    private static void block0HasZero() {
        orders("alone", new BlockRuler(), 0);
        orders("to itself", Check.graph(1, 0, 0), 0);
        orders("in a loop", Check.graph(3, 0, 1, 1, 2, 2, 0, 1, 0), 0, 1, 2);
        Check.due("order(0) of 64", 0, Samples.full().order(0));
    }

    private static void deepAlongTheWays() {
        orders("deep", Check.graph(5, 0, 1, 0, 2, 1, 3, 3, 2, 2, 4), 0, 1, 3, 2, 4);
    }

    private static void asTheyStand() {
        orders("1 told first", Check.graph(3, 0, 1, 0, 2), 0, 2, 1);
        orders("2 told first", Check.graph(3, 0, 2, 0, 1), 0, 1, 2);
        BlockRuler cut = Check.graph(3, 0, 1, 0, 2, 0, 1);
        cut.cut(0, 0);
        orders("1 first and then cut", cut, 0, 1, 2);
        BlockRuler turned = Check.graph(3, 0, 1, 0, 2);
        turned.turn(0, 0, 2);
        turned.turn(0, 1, 1);
        orders("both turned", turned, 0, 1, 2);
    }

    private static void metAlreadyArePassedOver() {
        orders("twice", Check.graph(3, 0, 1, 0, 1, 0, 2, 0, 1), 0, 2, 1);
        orders("itself", Check.graph(3, 0, 0, 0, 1, 1, 1, 1, 2, 2, 2), 0, 1, 2);
        orders("met below", Check.graph(4, 0, 1, 1, 2, 2, 1, 2, 0, 0, 2, 0, 3, 3, 1), 0, 2, 3, 1);
    }

    private static void oppositeToLeaving() {
        orders("a diamond", Check.graph(4, 0, 1, 0, 2, 1, 3, 2, 3), 0, 2, 1, 3);
        orders("a knot", Check.graph(3, 0, 1, 0, 2, 1, 2, 2, 1), 0, 1, 2);
    }

    private static void neverReached() {
        Check.answersNone("order(6) of mixed", Samples::mixed, x -> x.order(6));
        orders("no ways", Check.graph(3), 0, -1, -1);
        orders("from one that is not reached", Check.graph(3, 1, 2, 2, 1, 1, 0), 0, -1, -1);
        BlockRuler bare = Samples.bare();
        for (int b = 1; b < 64; b++) {
            Check.due("order(" + b + ") of 64 bare ones", -1, bare.order(b));
        }
    }

    private static void reachedNoMore() {
        BlockRuler x = Check.graph(3, 0, 1, 1, 2);
        orders("a row", x, 0, 1, 2);
        x.cut(0, 0);
        orders("cut", x, 0, -1, -1);
        x.way(0, 2);
        orders("the last again", x, 0, -1, 1);
        x.turn(0, 0, 1);
        orders("both again", x, 0, 1, 2);
    }

    private static void noSuchBlock() {
        for (int b : Samples.notOf(7)) {
            Check.answersNone("order(" + b + ")", Samples::mixed, x -> x.order(b));
        }
        for (int b : Samples.notOf(64)) {
            Check.due("order(" + b + ") with 64", -1, Samples.full().order(b));
        }
    }
}
