/** Promise 2, "A block more: its number. IllegalStateException if there are 64." */
public final class Promise02BlockTest {
    public static void main(String[] args) {
        Check.sentence("promise 2, its number", Promise02BlockTest::itsNumber);
        Check.sentence("promise 2, numbers go on whatever else is told",
                Promise02BlockTest::numbersGoOn);
        Check.sentence("promise 2, with 63 there is room for one",
                Promise02BlockTest::theLastOneIsGiven);
        Check.sentence("promise 2, IllegalStateException if there are 64",
                Promise02BlockTest::refusedWhenFull);
        Check.sentence("promise 2, what was refused is refused again",
                Promise02BlockTest::refusedAgain);
        Check.sentence("promise 2, a new block has no ways and is not reached",
                Promise02BlockTest::aNewBlockIsBare);
        Check.sentence("promise 2, a block more changes no other's answers",
                Promise02BlockTest::aNewBlockChangesNoOther);
        Check.finish();
    }

    private static void itsNumber() {
        BlockRuler x = new BlockRuler();
        for (int b = 1; b < 64; b++) {
            Check.due("block()", b, x.block());
            Check.due("count(0)", b + 1, x.count(0));
            Check.due("look(" + b + ", 0), there at once", 0, x.look(b, 0));
            Check.due("look(" + (b + 1) + ", 0), not there yet", -1, x.look(b + 1, 0));
        }
    }

    private static void numbersGoOn() {
        BlockRuler x = Check.graph(3, 0, 1, 1, 2);
        x.cut(0, 0);
        Check.due("block() after a cut", 3, x.block());
        Check.outcome(() -> x.way(4, 4));
        Check.due("block() after a refused way", 4, x.block());
        x.turn(1, 0, 4);
        Check.due("block() after a turn", 5, x.block());
    }

    private static void theLastOneIsGiven() {
        BlockRuler x = Check.graph(63);
        Check.due("the 64th block", 63, x.block());
        Check.due("way(63, 63)", 0, x.way(63, 63));
        Check.due("way(0, 63)", 0, x.way(0, 63));
        Check.due("order(63)", 1, x.order(63));
    }

    private static void refusedWhenFull() {
        Check.refuses("block(), 64 bare ones", IllegalStateException.class, Samples::bare, BlockRuler::block);
        Check.refuses("block(), 64 with ways", IllegalStateException.class, Samples::full, BlockRuler::block);
        Check.refuses("block(), 64 in a row", IllegalStateException.class, Samples::row, BlockRuler::block);
    }

    private static void refusedAgain() {
        BlockRuler x = Samples.row();
        for (int i = 0; i < 70; i++) {
            Check.dueThrow("block()", IllegalStateException.class, x::block);
        }
        Check.due("count(0)", 64, x.count(0));
        Check.due("at(63)", 63, x.at(63));
        x.cut(0, 0);
        Check.dueThrow("block() after a cut", IllegalStateException.class, x::block);
    }

    private static void aNewBlockIsBare() {
        BlockRuler x = Samples.mixed();
        int b = x.block();
        int[] looks = {0, 0, 0, 0, -1, 0, 0};
        for (int what = 0; what < 7; what++) {
            Check.due("look(new, " + what + ")", looks[what], x.look(b, what));
        }
        Check.due("order(new)", -1, x.order(b));
        Check.due("parent(new)", -1, x.parent(b));
        Check.due("end(new, 0)", -1, x.end(b, 0));
        Check.due("rules(new, new)", false, x.rules(b, b));
    }

    private static void aNewBlockChangesNoOther() {
        Check.follows("block()", Samples::mixed, BlockRuler::block, () -> Check.graph(
                8, 0, 1, 1, 2, 2, 1, 2, 3, 3, 3, 3, 1, 0, 4, 0, 5, 4, 5, 5, 4, 6, 1, 6, 6));
        for (Questions.Question question : Questions.asking(6)) {
            BlockRuler x = Samples.mixed();
            String before = Check.outcome(question.ask(), x);
            x.block();
            boolean counts = question.name().equals("count(0)");
            Check.due(question.name(), counts ? "8" : before, Check.outcome(question.ask(), x));
        }
    }
}
