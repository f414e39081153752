/** Promise 6, "Where way k of a block ends; NONE if there is none such." */
public final class Promise06EndTest {
    public static void main(String[] args) {
        Check.sentence("promise 6, where way k of a block ends", Promise06EndTest::whereItEnds);
        Check.sentence("promise 6, of a block that is not reached, too",
                Promise06EndTest::ofABlockNotReached);
        Check.sentence("promise 6, NONE if k is too small", Promise06EndTest::kTooSmall);
        Check.sentence("promise 6, NONE if k is too large", Promise06EndTest::kTooLarge);
        Check.sentence("promise 6, NONE of a block without ways", Promise06EndTest::noWays);
        Check.sentence("promise 6, NONE if the block is not there", Promise06EndTest::noSuchBlock);
        Check.sentence("promise 6, NONE where a way was and is cut",
                Promise06EndTest::whereAWayWasCut);
        Check.finish();
    }

    private static void whereItEnds() {
        for (int from = 0; from < 55; from++) {
            BlockRuler x = Samples.full();
            for (int k = 0; k < 8; k++) {
                Check.due("end(" + from + ", " + k + ")", Samples.fullEnd(from, k), x.end(from, k));
            }
        }
    }

    private static void ofABlockNotReached() {
        Check.due("end(6, 0)", 1, Samples.mixed().end(6, 0));
        Check.due("end(6, 1)", 6, Samples.mixed().end(6, 1));
    }

    private static void kTooSmall() {
        for (int k : new int[] {-1, -2, -8, -16, Integer.MIN_VALUE}) {
            Check.answersNone("end(2, " + k + ")", Samples::mixed, x -> x.end(2, k));
            Check.answersNone("end(0, " + k + ")", Samples::mixed, x -> x.end(0, k));
        }
        Check.due("end(54, -1)", -1, Samples.full().end(54, -1));
    }

    private static void kTooLarge() {
        for (int k : Samples.notOf(2)) {
            Check.answersNone("end(2, " + k + ")", Samples::mixed, x -> x.end(2, k));
        }
        for (int k : Samples.notOf(8)) {
            Check.due("end(0, " + k + ")", -1, Samples.fan().end(0, k));
            Check.due("end(54, " + k + ")", -1, Samples.full().end(54, k));
        }
    }

    private static void noWays() {
        for (int k = -1; k <= 8; k++) {
            Check.due("end(1, " + k + ")", -1, Samples.fan().end(1, k));
            Check.due("end(63, " + k + ")", -1, Samples.full().end(63, k));
        }
    }

    private static void noSuchBlock() {
        for (int from : Samples.notOf(7)) {
            Check.answersNone("end(" + from + ", 0)", Samples::mixed, x -> x.end(from, 0));
        }
        for (int from : Samples.notOf(64)) {
            Check.due("end(" + from + ", 0) with 64", -1, Samples.full().end(from, 0));
        }
    }

    private static void whereAWayWasCut() {
        BlockRuler x = Samples.fan();
        for (int left = 7; left >= 0; left--) {
            x.cut(0, left);
            Check.due("end(0, " + left + ")", -1, x.end(0, left));
        }
    }
}
