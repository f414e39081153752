/** Promise 8, "The block that has a number in ORDER; NONE if none has." */
public final class Promise08AtTest {
    public static void main(String[] args) {
        Check.sentence("promise 8, the block that has a number",
                Promise08AtTest::theBlockThatHasIt);
        Check.sentence("promise 8, each reached block has one number", Promise08AtTest::opposite);
        Check.sentence("promise 8, NONE if the number is too small",
                Promise08AtTest::numberTooSmall);
        Check.sentence("promise 8, NONE if the number is too large",
                Promise08AtTest::numberTooLarge);
        Check.sentence("promise 8, NONE behind the reached ones, also where a block is",
                Promise08AtTest::behindTheReached);
        Check.sentence("promise 8, 63 is the last number of all", Promise08AtTest::all64);
        Check.finish();
    }

    private static void theBlockThatHasIt() {
        Check.due("mixed", "0 4 5 1 2 3", Check.orderOf(Samples.mixed()));
        Check.due("fan", "0 2 1", Check.orderOf(Samples.fan()));
        Check.due("alone", "0", Check.orderOf(new BlockRuler()));
    }

    private static void opposite() {
        BlockRuler x = Samples.full();
        for (int b = 0; b < 4; b++) {
            Check.due("at(order(" + b + "))", b, x.at(x.order(b)));
        }
        for (int b = 4; b < 64; b++) {
            BlockRuler y = Samples.full();
            Check.due("at(order(" + b + "))", b, y.at(y.order(b)));
        }
    }

    private static void numberTooSmall() {
        for (int order : new int[] {-1, -2, -63, -64, Integer.MIN_VALUE}) {
            Check.answersNone("at(" + order + ")", Samples::mixed, x -> x.at(order));
            Check.due("at(" + order + ") with 64", -1, Samples.full().at(order));
        }
    }

    private static void numberTooLarge() {
        for (int order : Samples.notOf(6)) {
            Check.answersNone("at(" + order + ")", Samples::mixed, x -> x.at(order));
        }
        for (int order : Samples.notOf(1)) {
            Check.due("at(" + order + ") of a new object", -1, new BlockRuler().at(order));
        }
    }

    private static void behindTheReached() {
        BlockRuler x = Check.graph(4, 0, 1, 1, 2, 2, 3);
        Check.due("at(3)", 3, x.at(3));
        x.cut(1, 0);
        Check.due("at(1)", 1, x.at(1));
        Check.due("at(2), cut off", -1, x.at(2));
        Check.due("at(3), cut off", -1, x.at(3));
        Check.due("at(1) of 64 bare ones", -1, Samples.bare().at(1));
        Check.due("at(63) of 64 bare ones", -1, Samples.bare().at(63));
    }

    private static void all64() {
        BlockRuler x = Samples.row();
        for (int order = 0; order < 64; order++) {
            Check.due("at(" + order + ") in a row", order, x.at(order));
        }
        Check.due("at(64) in a row", -1, x.at(64));
        Check.due("at(-1) in a row", -1, x.at(-1));
    }
}
