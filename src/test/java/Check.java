import java.util.function.Supplier;

/** What the tests share: telling each answer that is not the one due, and small graphs. */
final class Check {
    /** A call that may throw; its answer as a number. */
    interface Call {
        long answer();
    }

    /** A call on an object that is made for it; its answer as a number. */
    interface Ask {
        long of(BlockRuler ruler);
    }

    /** Of one sentence's answers no more are told: the others tell nothing new. */
    private static final int MOST_TOLD = 20;

    private static int wrong = 0;
    private static int told = 0;
    private static int done = 0;
    private static int sentences = 0;
    private static String sentence = "";

    private Check() {}

    /** A sentence of the document and its test; what is not as due is told with the sentence. */
    static void sentence(String text, Runnable test) {
        sentence = text + ": ";
        sentences++;
        told = 0;
        try {
            test.run();
        } catch (RuntimeException e) {
            tell("a call that should answer throws " + e);
            e.printStackTrace(System.out);
        }
        sentence = "";
    }

    static void due(String what, long want, long got) {
        done++;
        if (want != got) {
            tell(what + " answered " + got + ", due is " + want);
        }
    }

    static void due(String what, boolean want, boolean got) {
        due(what, want ? 1L : 0L, got ? 1L : 0L);
    }

    static void due(String what, String want, String got) {
        done++;
        if (!want.equals(got)) {
            tell(what + " answered " + got + ", due is " + want);
        }
    }

    /** The very class is due: a subclass would be one that the machine threw. */
    static void dueThrow(String what, Class<? extends RuntimeException> want, Call call) {
        due(what, "throws " + want.getName(), outcome(call));
    }

    static String outcome(Call call) {
        try {
            return Long.toString(call.answer());
        } catch (RuntimeException e) {
            return "throws " + e.getClass().getName();
        }
    }

    static String outcome(Ask ask, BlockRuler ruler) {
        return outcome(() -> ask.of(ruler));
    }

    /** The call throws, and an object that has refused it answers all as one that has not. */
    static void refuses(
            String what, Class<? extends RuntimeException> want, Supplier<BlockRuler> maker, Ask call) {
        answersAndLeaves(what, "throws " + want.getName(), maker, call);
    }

    /** The call answers NONE, and leaves all as it was. */
    static void answersNone(String what, Supplier<BlockRuler> maker, Ask call) {
        answersAndLeaves(what, "-1", maker, call);
    }

    /** The call answers false, and leaves all as it was. */
    static void answersFalse(String what, Supplier<BlockRuler> maker, Ask call) {
        answersAndLeaves(what, "0", maker, call);
    }

    /**
     * Each question gets objects of its own, since a run has 512 calls: one that is asked before
     * the call and after it, and one to which the call comes before any question.
     */
    private static void answersAndLeaves(
            String what, String want, Supplier<BlockRuler> maker, Ask call) {
        int blocks = maker.get().count(0);
        for (Questions.Question question : Questions.asking(blocks)) {
            BlockRuler asked = maker.get();
            String before = outcome(question.ask(), asked);
            due(what, want, outcome(call, asked));
            due(question.name() + " after " + what, before, outcome(question.ask(), asked));
            BlockRuler unasked = maker.get();
            due(what + " before any question", want, outcome(call, unasked));
            due(question.name() + " first after " + what, before, outcome(question.ask(), unasked));
        }
        for (Questions.Question change : Questions.changing(blocks)) {
            BlockRuler twin = maker.get();
            outcome(call, twin);
            due(change.name() + " after " + what, outcome(change.ask(), maker.get()),
                    outcome(change.ask(), twin));
        }
    }

    /** Objects made in two ways answer all alike. */
    static void sameAnswers(String what, Supplier<BlockRuler> maker, Supplier<BlockRuler> other) {
        int blocks = other.get().count(0);
        for (Questions.Question question : Questions.asking(blocks)) {
            due(what + ": " + question.name(), outcome(question.ask(), other.get()),
                    outcome(question.ask(), maker.get()));
        }
    }

    /** What is asked before a change and again after it is answered as if told so from the start. */
    static void follows(
            String what, Supplier<BlockRuler> maker, Ask change, Supplier<BlockRuler> changed) {
        int blocks = changed.get().count(0);
        for (Questions.Question question : Questions.asking(blocks)) {
            BlockRuler x = maker.get();
            outcome(question.ask(), x);
            outcome(change, x);
            due(question.name() + " after " + what, outcome(question.ask(), changed.get()),
                    outcome(question.ask(), x));
        }
    }

    /** A ruler with so many blocks and the ways told as pairs: from, to, from, to .. */
    static BlockRuler graph(int blocks, int... pairs) {
        BlockRuler ruler = new BlockRuler();
        for (int b = 1; b < blocks; b++) {
            ruler.block();
        }
        for (int i = 0; i < pairs.length; i += 2) {
            ruler.way(pairs[i], pairs[i + 1]);
        }
        return ruler;
    }

    /** The whole edge of a block, as far as the first NONE. */
    static String edgeOf(BlockRuler ruler, int block) {
        StringBuilder text = new StringBuilder();
        for (int i = 0; i < 65 && ruler.edge(block, i) != BlockRuler.NONE; i++) {
            text.append(ruler.edge(block, i)).append(' ');
        }
        return text.toString().trim();
    }

    /** The blocks of a head's loop. */
    static String loopOf(BlockRuler ruler, int head) {
        StringBuilder text = new StringBuilder();
        for (int block = 0; block < 64; block++) {
            if (ruler.inLoop(head, block)) {
                text.append(block).append(' ');
            }
        }
        return text.toString().trim();
    }

    /** The blocks in ORDER, as far as the first NONE. */
    static String orderOf(BlockRuler ruler) {
        StringBuilder text = new StringBuilder();
        for (int i = 0; i < 65 && ruler.at(i) != BlockRuler.NONE; i++) {
            text.append(ruler.at(i)).append(' ');
        }
        return text.toString().trim();
    }

    private static void tell(String text) {
        wrong++;
        told++;
        if (told <= MOST_TOLD) {
            System.out.println(sentence + text);
        }
    }

    static void finish() {
        String asked = sentences == 0 ? "" : sentences + " sentences, ";
        System.out.println(asked + done + " answers, " + wrong + " not as due");
        if (wrong != 0 || done == 0) {
            System.exit(1);
        }
    }
}
