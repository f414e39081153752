/** What the tests share: telling each answer that is not the one due, and small graphs. */
final class Check {
    /** A call that may throw; its answer as a number. */
    interface Call {
        long answer();
    }

    private static int wrong = 0;
    private static int done = 0;

    private Check() {}

    static void due(String what, long want, long got) {
        done++;
        if (want != got) {
            tell(what + " answered " + got + ", due is " + want);
        }
    }

    static void due(String what, boolean want, boolean got) {
        due(what, want ? 1L : 0L, got ? 1L : 0L);
    }

    static void due(String what, String want, String got) {
        done++;
        if (!want.equals(got)) {
            tell(what + " answered " + got + ", due is " + want);
        }
    }

    /** The very class is due: a subclass would be one that the machine threw. */
    static void dueThrow(String what, Class<? extends RuntimeException> want, Call call) {
        due(what, "throws " + want.getName(), outcome(call));
    }

    static String outcome(Call call) {
        try {
            return Long.toString(call.answer());
        } catch (RuntimeException e) {
            return "throws " + e.getClass().getName();
        }
    }

    /** A ruler with so many blocks and the ways told as pairs: from, to, from, to .. */
    static BlockRuler graph(int blocks, int... pairs) {
        BlockRuler ruler = new BlockRuler();
        for (int b = 1; b < blocks; b++) {
            ruler.block();
        }
        for (int i = 0; i < pairs.length; i += 2) {
            ruler.way(pairs[i], pairs[i + 1]);
        }
        return ruler;
    }

    /** The whole edge of a block, as far as the first NONE. */
    static String edgeOf(BlockRuler ruler, int block) {
        StringBuilder text = new StringBuilder();
        for (int i = 0; i < 65 && ruler.edge(block, i) != BlockRuler.NONE; i++) {
            text.append(ruler.edge(block, i)).append(' ');
        }
        return text.toString().trim();
    }

    /** The blocks of a head's loop. */
    static String loopOf(BlockRuler ruler, int head) {
        StringBuilder text = new StringBuilder();
        for (int block = 0; block < 64; block++) {
            if (ruler.inLoop(head, block)) {
                text.append(block).append(' ');
            }
        }
        return text.toString().trim();
    }

    /** The blocks in ORDER, as far as the first NONE. */
    static String orderOf(BlockRuler ruler) {
        StringBuilder text = new StringBuilder();
        for (int i = 0; i < 65 && ruler.at(i) != BlockRuler.NONE; i++) {
            text.append(ruler.at(i)).append(' ');
        }
        return text.toString().trim();
    }

    private static void tell(String text) {
        wrong++;
        if (wrong <= 50) {
            System.out.println(text);
        }
    }

    static void finish() {
        System.out.println(done + " answers, " + wrong + " not as due");
        if (wrong != 0 || done == 0) {
            System.exit(1);
        }
    }
}
