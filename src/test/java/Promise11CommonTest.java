/**
 * Promise 11, "The last block in order that rules both. IllegalArgumentException if they are not
 * both reached."
 */
public final class Promise11CommonTest {
    private static final Class<IllegalArgumentException> ARGUMENT = IllegalArgumentException.class;

    public static void main(String[] args) {
        Check.sentence("promise 11, a block that rules both", Promise11CommonTest::rulesBoth);
        Check.sentence("promise 11, the last in order, not by number",
                Promise11CommonTest::theLastInOrder);
        Check.sentence("promise 11, of a block and itself the block",
                Promise11CommonTest::ofOneAndItself);
        Check.sentence("promise 11, of two of which one rules the other that one",
                Promise11CommonTest::oneRulesTheOther);
        Check.sentence("promise 11, IllegalArgumentException if x is not reached",
                Promise11CommonTest::xNotReached);
        Check.sentence("promise 11, IllegalArgumentException if y is not reached",
                Promise11CommonTest::yNotReached);
        Check.sentence("promise 11, IllegalArgumentException if neither is reached",
                Promise11CommonTest::neitherReached);
        Check.sentence("promise 11, IllegalArgumentException if one is not there",
                Promise11CommonTest::notThere);
        Check.sentence("promise 11, among 64 in a row", Promise11CommonTest::all64);
        Check.finish();
    }

    private static void common(BlockRuler x, int a, int b, int want) {
        Check.due("common(" + a + ", " + b + ")", want, x.common(a, b));
        Check.due("common(" + b + ", " + a + ")", want, x.common(b, a));
    }

    private static void rulesBoth() {
        common(Samples.mixed(), 3, 5, 0);
        common(Samples.mixed(), 4, 5, 0);
        common(Check.graph(5, 0, 1, 1, 2, 1, 3, 2, 4, 3, 4), 2, 3, 1);
        common(Check.graph(5, 0, 1, 1, 2, 1, 3, 2, 4, 3, 4), 2, 4, 1);
    }

    private static void theLastInOrder() {
        common(Check.graph(6, 0, 5, 5, 4, 4, 1, 1, 2, 1, 3), 2, 3, 1);
        common(Check.graph(6, 0, 1, 1, 5, 5, 2, 5, 3), 2, 3, 5);
    }

    private static void ofOneAndItself() {
        for (int b = 0; b < 6; b++) {
            common(Samples.mixed(), b, b, b);
        }
        common(new BlockRuler(), 0, 0, 0);
    }

    private static void oneRulesTheOther() {
        common(Samples.mixed(), 1, 3, 1);
        common(Samples.mixed(), 2, 3, 2);
        for (int b = 0; b < 6; b++) {
            common(Samples.mixed(), 0, b, 0);
        }
    }

    private static void xNotReached() {
        for (int b = 0; b < 6; b++) {
            int y = b;
            Check.refuses("common(6, " + b + ")", ARGUMENT, Samples::mixed, x -> x.common(6, y));
        }
    }

    private static void yNotReached() {
        for (int b = 0; b < 6; b++) {
            int a = b;
            Check.refuses("common(" + b + ", 6)", ARGUMENT, Samples::mixed, x -> x.common(a, 6));
        }
    }

    private static void neitherReached() {
        Check.refuses("common(6, 6)", ARGUMENT, Samples::mixed, x -> x.common(6, 6));
        Check.refuses("common(1, 2)", ARGUMENT, () -> Check.graph(3, 1, 2), x -> x.common(1, 2));
        BlockRuler x = Check.graph(3, 0, 1, 1, 2);
        common(x, 1, 2, 1);
        x.cut(0, 0);
        Check.dueThrow("common(1, 2), cut off", ARGUMENT, () -> x.common(1, 2));
    }

    private static void notThere() {
        for (int b : Samples.notOf(7)) {
            Check.refuses("common(0, " + b + ")", ARGUMENT, Samples::mixed, x -> x.common(0, b));
            Check.refuses("common(" + b + ", 0)", ARGUMENT, Samples::mixed, x -> x.common(b, 0));
            Check.refuses("common(" + b + ", itself)", ARGUMENT, Samples::mixed, x -> x.common(b, b));
        }
        Check.refuses("common(0, 64) with 64", ARGUMENT, Samples::row, x -> x.common(0, 64));
        Check.refuses("common(-1, 63) with 64", ARGUMENT, Samples::row, x -> x.common(-1, 63));
    }

    private static void all64() {
        for (int a = 0; a < 64; a++) {
            BlockRuler x = Samples.row();
            for (int b = 0; b < 64; b++) {
                Check.due("common(" + a + ", " + b + ")", Math.min(a, b), x.common(a, b));
            }
        }
    }
}
