/**
 * Promise 5, "A way's end becomes another block: the one that it was. IndexOutOfBoundsException if
 * there is no such way; IllegalArgumentException if there is no such block."
 */
public final class Promise05TurnTest {
    private static final Class<IndexOutOfBoundsException> INDEX = IndexOutOfBoundsException.class;
    private static final Class<IllegalArgumentException> ARGUMENT = IllegalArgumentException.class;

    public static void main(String[] args) {
        Check.sentence("promise 5, the one that it was", Promise05TurnTest::theOneThatItWas);
        Check.sentence("promise 5, a way's end becomes another block",
                Promise05TurnTest::theEndBecomesAnother);
        Check.sentence("promise 5, the ways keep their numbers",
                Promise05TurnTest::itKeepsItsNumber);
        Check.sentence("promise 5, to itself and to where it ends already",
                Promise05TurnTest::toItselfAndToTheSame);
        Check.sentence("promise 5, a block that is not reached has ways, too",
                Promise05TurnTest::ofABlockNotReached);
        Check.sentence("promise 5, all is asked of the way as it is turned",
                Promise05TurnTest::allFollows);
        Check.sentence("promise 5, IndexOutOfBoundsException if k is too small",
                Promise05TurnTest::kTooSmall);
        Check.sentence("promise 5, IndexOutOfBoundsException if k is too large",
                Promise05TurnTest::kTooLarge);
        Check.sentence("promise 5, IndexOutOfBoundsException if the block from is not there",
                Promise05TurnTest::noSuchBlockFrom);
        Check.sentence("promise 5, IllegalArgumentException if there is no such block",
                Promise05TurnTest::noSuchBlockTo);
        Check.sentence("promise 5, of both exceptions IndexOutOfBoundsException",
                Promise05TurnTest::toldFirst);
        Check.finish();
    }

    private static void theOneThatItWas() {
        for (int k = 0; k < 8; k++) {
            Check.due("turn(0, " + k + ", 3)", k % 3, Samples.fan().turn(0, k, 3));
        }
        Check.due("turn(54, 7, 0)", Samples.fullEnd(54, 7), Samples.full().turn(54, 7, 0));
    }

    private static void theEndBecomesAnother() {
        for (int k = 0; k < 8; k++) {
            BlockRuler x = Samples.fan();
            x.turn(0, k, 3);
            Check.due("end(0, " + k + ")", 3, x.end(0, k));
            Check.due("turned back", 3, x.turn(0, k, 0));
            Check.due("end(0, " + k + ") then", 0, x.end(0, k));
        }
        BlockRuler x = Samples.full();
        x.turn(0, 0, 63);
        Check.due("end(0, 0), the last block", 63, x.end(0, 0));
    }

    private static void itKeepsItsNumber() {
        for (int turned = 0; turned < 8; turned++) {
            BlockRuler x = Samples.fan();
            x.turn(0, turned, 3);
            for (int k = 0; k < 8; k++) {
                Check.due("end(0, " + k + ")", k == turned ? 3 : k % 3, x.end(0, k));
            }
            Check.due("look(0, 0)", 8, x.look(0, 0));
            Check.due("count(1)", 8, x.count(1));
            Check.due("end(1, 0), another's", -1, x.end(1, 0));
        }
    }

    private static void toItselfAndToTheSame() {
        BlockRuler x = Check.graph(2, 0, 1);
        Check.due("turn(0, 0, 1), the same", 1, x.turn(0, 0, 1));
        Check.due("end(0, 0)", 1, x.end(0, 0));
        Check.due("turn(0, 0, 0), itself", 1, x.turn(0, 0, 0));
        Check.due("end(0, 0)", 0, x.end(0, 0));
        Check.due("sort(0, 0)", 1, x.sort(0, 0));
    }

    private static void ofABlockNotReached() {
        BlockRuler x = Samples.mixed();
        Check.due("turn(6, 1, 5)", 6, x.turn(6, 1, 5));
        Check.due("end(6, 1)", 5, x.end(6, 1));
        Check.due("look(5, 6)", 2, x.look(5, 6));
    }

    private static void allFollows() {
        Check.follows("turn(2, 1, 6)", Samples::mixed, x -> x.turn(2, 1, 6), () -> Check.graph(
                7, 0, 1, 1, 2, 2, 1, 2, 6, 3, 3, 3, 1, 0, 4, 0, 5, 4, 5, 5, 4, 6, 1, 6, 6));
    }

    private static void kTooSmall() {
        for (int k : new int[] {-1, -2, -8, -16, Integer.MIN_VALUE}) {
            Check.refuses("turn(2, " + k + ", 0)", INDEX, Samples::mixed, x -> x.turn(2, k, 0));
            Check.refuses("turn(0, " + k + ", 0)", INDEX, Samples::mixed, x -> x.turn(0, k, 0));
        }
        Check.refuses("turn(54, -1, 0)", INDEX, Samples::full, x -> x.turn(54, -1, 0));
    }

    private static void kTooLarge() {
        for (int k : Samples.notOf(2)) {
            Check.refuses("turn(2, " + k + ", 0)", INDEX, Samples::mixed, x -> x.turn(2, k, 0));
        }
        for (int k : Samples.notOf(8)) {
            Check.refuses("turn(0, " + k + ", 3)", INDEX, Samples::fan, x -> x.turn(0, k, 3));
        }
        Check.refuses("turn(1, 0, 3), without ways", INDEX, Samples::fan, x -> x.turn(1, 0, 3));
        Check.refuses("turn(54, 8, 0)", INDEX, Samples::full, x -> x.turn(54, 8, 0));
        Check.refuses("turn(63, 0, 0), without ways", INDEX, Samples::full, x -> x.turn(63, 0, 0));
    }

    private static void noSuchBlockFrom() {
        for (int from : Samples.notOf(7)) {
            Check.refuses("turn(" + from + ", 0, 0)", INDEX, Samples::mixed, x -> x.turn(from, 0, 0));
        }
        Check.refuses("turn(64, 0, 0) with 64", INDEX, Samples::full, x -> x.turn(64, 0, 0));
        Check.refuses("turn(-1, 0, 0) with 64", INDEX, Samples::full, x -> x.turn(-1, 0, 0));
    }

    private static void noSuchBlockTo() {
        for (int to : Samples.notOf(7)) {
            Check.refuses("turn(0, 0, " + to + ")", ARGUMENT, Samples::mixed, x -> x.turn(0, 0, to));
            Check.refuses("turn(6, 1, " + to + ")", ARGUMENT, Samples::mixed, x -> x.turn(6, 1, to));
        }
        Check.refuses("turn(0, 0, 64) with 64", ARGUMENT, Samples::full, x -> x.turn(0, 0, 64));
        Check.refuses("turn(0, 0, -1) with 64", ARGUMENT, Samples::full, x -> x.turn(0, 0, -1));
    }

    private static void toldFirst() {
        for (int to : Samples.notOf(7)) {
            Check.refuses("turn(0, 3, " + to + ")", INDEX, Samples::mixed, x -> x.turn(0, 3, to));
            Check.refuses("turn(0, -1, " + to + ")", INDEX, Samples::mixed, x -> x.turn(0, -1, to));
            Check.refuses("turn(" + to + ", 0, " + to + ")", INDEX, Samples::mixed,
                    x -> x.turn(to, 0, to));
        }
    }
}
