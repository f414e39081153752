/** Promise 10, "Whether x RULES y; false if they are not both reached." */
public final class Promise10RulesTest {
    public static void main(String[] args) {
        Check.sentence("promise 10, true if each row of ways goes through x",
                Promise10RulesTest::eachRowGoesThrough);
        Check.sentence("promise 10, false if a row of ways goes round x",
                Promise10RulesTest::aRowGoesRound);
        Check.sentence("promise 10, false if a row of ways against the order goes round x",
                Promise10RulesTest::aRowGoesRoundAgainstTheOrder);
        Check.sentence("promise 10, each rules itself", Promise10RulesTest::eachRulesItself);
        Check.sentence("promise 10, what is ruled does not rule",
                Promise10RulesTest::notTheOtherWayRound);
        Check.sentence("promise 10, false if x is not reached", Promise10RulesTest::xNotReached);
        Check.sentence("promise 10, false if y is not reached", Promise10RulesTest::yNotReached);
        Check.sentence("promise 10, false if neither is reached, be they the same",
                Promise10RulesTest::neitherReached);
        Check.sentence("promise 10, false if one is not there", Promise10RulesTest::notThere);
        Check.sentence("promise 10, among 64 in a row", Promise10RulesTest::all64);
        Check.finish();
    }

    private static void eachRowGoesThrough() {
        BlockRuler x = Samples.mixed();
        Check.due("rules(1, 2)", true, x.rules(1, 2));
        Check.due("rules(1, 3)", true, x.rules(1, 3));
        for (int b = 0; b < 6; b++) {
            Check.due("rules(0, " + b + ")", true, x.rules(0, b));
        }
        Check.due("past a diamond", true, Check.graph(5, 0, 1, 1, 2, 1, 3, 2, 4, 3, 4).rules(1, 4));
    }

    private static void aRowGoesRound() {
        BlockRuler x = Samples.mixed();
        Check.due("rules(4, 5)", false, x.rules(4, 5));
        Check.due("rules(5, 4)", false, x.rules(5, 4));
        Check.due("rules(1, 4)", false, x.rules(1, 4));
        Check.due("in a diamond", false, Check.graph(4, 0, 1, 0, 2, 1, 3, 2, 3).rules(1, 3));
        BlockRuler late = Check.graph(5, 0, 1, 1, 2, 2, 3, 3, 4);
        Check.due("rules(1, 4)", true, late.rules(1, 4));
        late.way(0, 4);
        Check.due("rules(1, 4), a way more", false, late.rules(1, 4));
        Check.due("a row from what is not reached counts not", true,
                Check.graph(4, 0, 1, 1, 2, 3, 2).rules(1, 2));
    }

    /** A ladder up and down, entered at both ends: in one pass along the ORDER it is not seen. */
    private static void aRowGoesRoundAgainstTheOrder() {
        BlockRuler x = Samples.row();
        for (int b = 63; b > 1; b--) {
            x.way(b, b - 1);
        }
        Check.due("rules(1, 63)", true, x.rules(1, 63));
        x.way(0, 63);
        for (int b = 2; b < 64; b++) {
            Check.due("rules(" + (b - 1) + ", " + b + ")", false, x.rules(b - 1, b));
            Check.due("rules(" + b + ", " + (b - 1) + ")", false, x.rules(b, b - 1));
        }
    }

    private static void eachRulesItself() {
        BlockRuler x = Samples.mixed();
        for (int b = 0; b < 6; b++) {
            Check.due("rules(" + b + ", " + b + ")", true, x.rules(b, b));
        }
        Check.due("rules(0, 0), alone", true, new BlockRuler().rules(0, 0));
    }

    private static void notTheOtherWayRound() {
        BlockRuler x = Samples.mixed();
        for (int b = 1; b < 6; b++) {
            Check.due("rules(" + b + ", 0)", false, x.rules(b, 0));
        }
        Check.due("rules(2, 1)", false, x.rules(2, 1));
        Check.due("rules(3, 1)", false, x.rules(3, 1));
    }

    private static void xNotReached() {
        for (int b = 0; b < 6; b++) {
            int y = b;
            Check.answersFalse("rules(6, " + b + ")", Samples::mixed, x -> x.rules(6, y) ? 1 : 0);
        }
    }

    private static void yNotReached() {
        for (int b = 0; b < 6; b++) {
            int a = b;
            Check.answersFalse("rules(" + b + ", 6)", Samples::mixed, x -> x.rules(a, 6) ? 1 : 0);
        }
    }

    private static void neitherReached() {
        Check.answersFalse("rules(6, 6)", Samples::mixed, x -> x.rules(6, 6) ? 1 : 0);
        Check.due("rules(1, 2)", false, Check.graph(3, 1, 2).rules(1, 2));
        BlockRuler x = Check.graph(3, 0, 1, 1, 2);
        Check.due("rules(1, 2), reached", true, x.rules(1, 2));
        x.cut(0, 0);
        Check.due("rules(1, 2), cut off", false, x.rules(1, 2));
        Check.due("rules(2, 2), cut off", false, x.rules(2, 2));
    }

    private static void notThere() {
        for (int b : Samples.notOf(7)) {
            Check.answersFalse("rules(0, " + b + ")", Samples::mixed, x -> x.rules(0, b) ? 1 : 0);
            Check.answersFalse("rules(" + b + ", 3)", Samples::mixed, x -> x.rules(b, 3) ? 1 : 0);
            Check.answersFalse("rules(" + b + ", itself)", Samples::mixed, x -> x.rules(b, b) ? 1 : 0);
        }
        for (int b : Samples.notOf(64)) {
            Check.due("rules(0, " + b + ") with 64", false, Samples.row().rules(0, b));
            Check.due("rules(" + b + ", 63) with 64", false, Samples.row().rules(b, 63));
        }
    }

    private static void all64() {
        for (int a = 0; a < 64; a++) {
            BlockRuler x = Samples.row();
            for (int b = 0; b < 64; b++) {
                Check.due("rules(" + a + ", " + b + ")", a <= b, x.rules(a, b));
            }
        }
    }
}
