/**
 * Promise 3, "A way more, behind those that a block has: which one it is. IllegalArgumentException
 * if there are no such blocks; IllegalStateException if it has 8."
 */
public final class Promise03WayTest {
    private static final Class<IllegalStateException> STATE = IllegalStateException.class;
    private static final Class<IllegalArgumentException> ARGUMENT = IllegalArgumentException.class;

    public static void main(String[] args) {
        Check.sentence("promise 3, which one it is", Promise03WayTest::whichOneItIs);
        Check.sentence("promise 3, behind those that a block has",
                Promise03WayTest::behindThoseItHas);
        Check.sentence("promise 3, to the same one twice, too",
                Promise03WayTest::toTheSameOneTwice);
        Check.sentence("promise 3, to itself, too", Promise03WayTest::toItself);
        Check.sentence("promise 3, a block's ways are its own",
                Promise03WayTest::eachBlockCountsItsOwn);
        Check.sentence("promise 3, all is asked of the ways with the one more",
                Promise03WayTest::allFollows);
        Check.sentence("promise 3, IllegalArgumentException if there is no block from",
                Promise03WayTest::noBlockFrom);
        Check.sentence("promise 3, IllegalArgumentException if there is no block to",
                Promise03WayTest::noBlockTo);
        Check.sentence("promise 3, IllegalArgumentException if there is neither",
                Promise03WayTest::noBlockAtAll);
        Check.sentence("promise 3, with 7 there is room for one",
                Promise03WayTest::theEighthIsTaken);
        Check.sentence("promise 3, IllegalStateException if it has 8",
                Promise03WayTest::theNinthIsRefused);
        Check.sentence("promise 3, a cut makes room again behind the rest",
                Promise03WayTest::roomAgain);
        Check.sentence("promise 3, of both exceptions IllegalArgumentException",
                Promise03WayTest::toldFirst);
        Check.finish();
    }

    private static void whichOneItIs() {
        for (int from : new int[] {0, 1, 63}) {
            BlockRuler x = Samples.bare();
            for (int k = 0; k < 8; k++) {
                Check.due("way(" + from + ", ..)", k, x.way(from, 63 - k));
                Check.due("look(" + from + ", 0)", k + 1, x.look(from, 0));
                Check.due("count(1)", k + 1, x.count(1));
            }
        }
    }

    private static void behindThoseItHas() {
        BlockRuler x = Samples.bare();
        for (int k = 0; k < 8; k++) {
            x.way(5, 50 - 3 * k);
            for (int before = 0; before <= k; before++) {
                Check.due("end(5, " + before + ")", 50 - 3 * before, x.end(5, before));
            }
            Check.due("end(5, " + (k + 1) + ")", -1, x.end(5, k + 1));
        }
    }

    private static void toTheSameOneTwice() {
        BlockRuler x = Check.graph(2);
        for (int k = 0; k < 8; k++) {
            Check.due("way(0, 1)", k, x.way(0, 1));
            Check.due("look(1, 6)", k + 1, x.look(1, 6));
        }
        Check.due("count(1)", 8, x.count(1));
    }

    private static void toItself() {
        BlockRuler x = Check.graph(2);
        Check.due("way(0, 0)", 0, x.way(0, 0));
        Check.due("end(0, 0)", 0, x.end(0, 0));
        Check.due("way(1, 1), not reached", 0, x.way(1, 1));
        Check.due("end(1, 0)", 1, x.end(1, 0));
    }

    private static void eachBlockCountsItsOwn() {
        BlockRuler x = Check.graph(3, 1, 0, 1, 2);
        Check.due("way(0, 1)", 0, x.way(0, 1));
        Check.due("way(2, 1)", 0, x.way(2, 1));
        Check.due("way(1, 1)", 2, x.way(1, 1));
        Check.due("end(0, 0)", 1, x.end(0, 0));
        Check.due("end(1, 0)", 0, x.end(1, 0));
        Check.due("end(2, 0)", 1, x.end(2, 0));
    }

    private static void allFollows() {
        Check.follows("way(3, 6)", Samples::mixed, x -> x.way(3, 6), () -> Check.graph(
                7, 0, 1, 1, 2, 2, 1, 2, 3, 3, 3, 3, 1, 3, 6, 0, 4, 0, 5, 4, 5, 5, 4, 6, 1, 6, 6));
    }

    private static void noBlockFrom() {
        for (int from : Samples.notOf(7)) {
            Check.refuses("way(" + from + ", 0)", ARGUMENT, Samples::mixed, x -> x.way(from, 0));
        }
        Check.refuses("way(64, 0) with 64 blocks", ARGUMENT, Samples::full, x -> x.way(64, 0));
        Check.refuses("way(-1, 0) with 64 blocks", ARGUMENT, Samples::full, x -> x.way(-1, 0));
    }

    private static void noBlockTo() {
        for (int to : Samples.notOf(7)) {
            Check.refuses("way(0, " + to + ")", ARGUMENT, Samples::mixed, x -> x.way(0, to));
        }
        Check.refuses("way(63, 64) with 64 blocks", ARGUMENT, Samples::full, x -> x.way(63, 64));
        Check.refuses("way(63, -1) with 64 blocks", ARGUMENT, Samples::full, x -> x.way(63, -1));
    }

    private static void noBlockAtAll() {
        for (int none : Samples.notOf(7)) {
            Check.refuses("way(" + none + ", " + none + ")", ARGUMENT, Samples::mixed,
                    x -> x.way(none, none));
        }
    }

    private static void theEighthIsTaken() {
        BlockRuler x = Check.graph(3, 2, 0, 2, 0, 2, 0, 2, 0, 2, 0, 2, 0, 2, 0);
        Check.due("the eighth way", 7, x.way(2, 1));
        Check.due("end(2, 7)", 1, x.end(2, 7));
    }

    private static void theNinthIsRefused() {
        for (int to = 0; to < 4; to++) {
            int end = to;
            Check.refuses("way(0, " + to + ") with 8", STATE, Samples::fan, x -> x.way(0, end));
        }
        Check.refuses("way(54, 63) with 8", STATE, Samples::full, x -> x.way(54, 63));
        Check.refuses("way(2, 0) with 8, not reached", STATE,
                () -> Check.graph(4, 2, 0, 2, 1, 2, 2, 2, 3, 2, 3, 2, 2, 2, 1, 2, 0), x -> x.way(2, 0));
        BlockRuler x = Samples.fan();
        Check.due("another block's first", 0, x.way(1, 0));
    }

    private static void roomAgain() {
        BlockRuler x = Samples.fan();
        x.cut(0, 2);
        Check.due("way(0, 3)", 7, x.way(0, 3));
        Check.due("end(0, 7)", 3, x.end(0, 7));
        Check.dueThrow("way(0, 3) again", STATE, () -> x.way(0, 3));
        x.turn(0, 7, 2);
        Check.dueThrow("way(0, 3) after a turn", STATE, () -> x.way(0, 3));
    }

    private static void toldFirst() {
        for (int to : Samples.notOf(4)) {
            Check.refuses("way(0, " + to + ") with 8", ARGUMENT, Samples::fan, x -> x.way(0, to));
        }
    }
}
