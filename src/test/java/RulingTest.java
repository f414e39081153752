/** Promises 9 to 11: which block rules which. */
public final class RulingTest {
    private static final int[] FAR = {-1, 64, 65, Integer.MIN_VALUE, Integer.MAX_VALUE};

    public static void main(String[] args) {
        promise9Parent();
        promise10Rules();
        promise11Common();
        aLadderOfKnots();
        Check.finish();
    }

    /** 0 -> 1 -> {2, 3} -> 4 -> 5 -> 1, and 6 -> 4, which is not reached, as 7 is not. */
    private static BlockRuler diamond() {
        return Check.graph(8, 0, 1, 1, 2, 1, 3, 2, 4, 3, 4, 4, 5, 5, 1, 6, 4, 6, 7);
    }

    private static void promise9Parent() {
        BlockRuler x = diamond();
        int[] parents = {-1, 0, 1, 1, 1, 4, -1, -1, -1};
        for (int b = 0; b < parents.length; b++) {
            Check.due("parent(" + b + ")", parents[b], x.parent(b));
        }
        for (int far : FAR) {
            Check.due("parent(far)", -1, x.parent(far));
        }
        x.way(0, 6);
        Check.due("parent(4) with a way round", 0, x.parent(4));
        Check.due("parent(1) with a way round", 0, x.parent(1));
        Check.due("parent(7)", 6, x.parent(7));
        x.way(7, 0);
        Check.due("parent(0) with a way to it", -1, x.parent(0));
    }

    private static void promise10Rules() {
        BlockRuler x = diamond();
        String[] ruled = {"012345", "12345", "2", "3", "45", "5", "", "", ""};
        for (int a = 0; a < ruled.length; a++) {
            for (int b = 0; b < ruled.length; b++) {
                boolean want = ruled[a].indexOf('0' + b) >= 0;
                Check.due("rules(" + a + ", " + b + ")", want, x.rules(a, b));
            }
        }
        for (int far : FAR) {
            Check.due("rules(far, 0)", false, x.rules(far, 0));
            Check.due("rules(0, far)", false, x.rules(0, far));
            Check.due("rules(far, far)", false, x.rules(far, far));
        }
    }

    private static void promise11Common() {
        BlockRuler x = diamond();
        Check.due("common(2, 3)", 1, x.common(2, 3));
        Check.due("common(2, 5)", 1, x.common(2, 5));
        Check.due("common(5, 4)", 4, x.common(5, 4));
        Check.due("common(4, 5)", 4, x.common(4, 5));
        Check.due("common(5, 5)", 5, x.common(5, 5));
        Check.due("common(0, 5)", 0, x.common(0, 5));
        refused(x, 6, 0);
        refused(x, 0, 6);
        refused(x, 6, 6);
        refused(x, 8, 0);
        refused(x, 0, 8);
        for (int far : FAR) {
            refused(x, far, 0);
            refused(x, 0, far);
        }
    }

    private static void refused(BlockRuler x, int a, int b) {
        Check.dueThrow("common(" + a + ", " + b + ")", IllegalArgumentException.class,
                () -> x.common(a, b));
    }

    /** Two ways up and down a ladder, against the ORDER: a single pass finds too many rulers. */
    private static void aLadderOfKnots() {
        BlockRuler x = Check.graph(64);
        for (int b = 1; b < 63; b++) {
            x.way(b, b + 1);
            x.way(b + 1, b);
        }
        x.way(0, 1);
        Check.due("a row: parent(63)", 62, x.parent(63));
        Check.due("a row: rules(1, 63)", true, x.rules(1, 63));
        x.way(0, 63);
        for (int b = 1; b < 64; b++) {
            Check.due("a ladder: parent(" + b + ")", 0, x.parent(b));
            Check.due("a ladder: rules itself", 1, x.look(b, 5));
        }
        Check.due("a ladder: knots", 62, x.count(5));
    }
}
