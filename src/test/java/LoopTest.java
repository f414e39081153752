/** Promises 12 to 14: ways back, knots, heads, loops, depth. */
public final class LoopTest {
    private static final int[] FAR = {-1, 64, 65, Integer.MIN_VALUE, Integer.MAX_VALUE};

    public static void main(String[] args) {
        promise12Sort();
        promise13InLoop();
        promise14Look();
        innermost();
        selfLoopTakesNoMore();
        loopsWithOneHead();
        loopOfAll();
        Check.finish();
    }

    /** 0 -> 1 <-> 2 -> 3 (to itself) -> 1, 0 -> 4 <-> 5 <- 0 a knot, and 6 -> 1 not reached. */
    private static BlockRuler mixed() {
        return Check.graph(7, 0, 1, 1, 2, 2, 1, 2, 3, 3, 3, 3, 1, 0, 4, 0, 5, 4, 5, 5, 4, 6, 1, 6, 6);
    }

    private static void promise12Sort() {
        BlockRuler x = mixed();
        int[][] sorts = {{0, 0, 0}, {0}, {1, 0}, {1, 1}, {0}, {2}, {-1, -1}, {}};
        for (int b = 0; b < sorts.length; b++) {
            for (int k = 0; k < 9; k++) {
                int want = k < sorts[b].length ? sorts[b][k] : -1;
                Check.due("sort(" + b + ", " + k + ")", want, x.sort(b, k));
            }
        }
        for (int far : FAR) {
            Check.due("sort(far, 0)", -1, x.sort(far, 0));
            Check.due("sort(0, far)", -1, x.sort(0, far));
        }
        x.way(5, 0);
        Check.due("a way to block 0", 1, x.sort(5, 1));
        x.cut(0, 1);
        Check.due("a knot undone", 0, x.sort(5, 0));
        Check.due("and a way back to a head in its place", 1, x.sort(4, 0));
    }

    private static void promise13InLoop() {
        BlockRuler x = mixed();
        String[] loops = {"", "1 2 3", "", "3", "", "", "", ""};
        for (int b = 0; b < loops.length; b++) {
            Check.due("loop of " + b, loops[b], Check.loopOf(mixed(), b));
        }
        for (int far : FAR) {
            Check.due("inLoop(far, 1)", false, x.inLoop(far, 1));
            Check.due("inLoop(1, far)", false, x.inLoop(1, far));
        }
        x.way(2, 6);
        Check.due("loop of 1, with 6 reached", "1 2 3 6", Check.loopOf(x, 1));
        Check.due("loop of 6, with 6 reached", "6", Check.loopOf(x, 6));
    }

    private static void promise14Look() {
        BlockRuler x = mixed();
        int[][] looks = {
            {3, 0, 0, 0, -1, 6, 0},
            {1, 1, 3, 1, 1, 3, 3},
            {2, 0, 0, 1, 1, 2, 1},
            {2, 1, 1, 2, 3, 1, 2},
            {1, 0, 0, 0, -1, 1, 2},
            {1, 0, 0, 0, -1, 1, 2},
            {2, 0, 0, 0, -1, 0, 0},
            {-1, -1, -1, -1, -1, -1, -1},
        };
        for (int b = 0; b < looks.length; b++) {
            for (int what = 0; what < 7; what++) {
                Check.due("look(" + b + ", " + what + ")", looks[b][what], x.look(b, what));
            }
            Check.due("look(" + b + ", 7)", -1, x.look(b, 7));
        }
        for (int far : FAR) {
            Check.due("look(far, 0)", -1, x.look(far, 0));
            Check.due("look(0, far)", -1, x.look(0, far));
        }
    }

    /** Loops that share a block lie one in another, so the least is the one with the last head. */
    private static void innermost() {
        BlockRuler x = Check.graph(4, 0, 1, 1, 2, 2, 3, 3, 1, 3, 2);
        Check.due("of a block in two loops", 2, x.look(3, 4));
        Check.due("of a head in two loops", 2, x.look(2, 4));
        Check.due("of the outer head", 1, x.look(1, 4));
        BlockRuler y = Check.graph(5, 0, 4, 4, 3, 3, 4, 3, 2, 2, 3, 4, 1, 1, 4);
        Check.due("loop of 4", "1 2 3 4", Check.loopOf(y, 4));
        Check.due("loop of 3", "2 3", Check.loopOf(y, 3));
        Check.due("innermost of 3", 3, y.look(3, 4));
        Check.due("innermost of 2", 3, y.look(2, 4));
        Check.due("innermost of 1", 4, y.look(1, 4));
        Check.due("depth of 2", 2, y.look(2, 3));
        Check.due("depth of 1", 1, y.look(1, 3));
    }

    /** That ways lead to the head itself puts nothing into its loop. */
    private static void selfLoopTakesNoMore() {
        BlockRuler x = Check.graph(4, 0, 1, 1, 1, 1, 2, 0, 3, 3, 1);
        Check.due("loop of 1", "1", Check.loopOf(x, 1));
        Check.due("loop of 0", "", Check.loopOf(x, 0));
        x.way(2, 1);
        Check.due("loop of 1 with a second way back", "1 2", Check.loopOf(x, 1));
        x.way(0, 0);
        Check.due("loop of 0 to itself", "0", Check.loopOf(x, 0));
        x.way(3, 0);
        Check.due("loop of 0 from 3", "0 3", Check.loopOf(x, 0));
        Check.due("depth of 0", 1, x.look(0, 3));
        Check.due("innermost of 3", 0, x.look(3, 4));
        x.cut(3, 1);
        x.cut(0, 2);
        Check.due("loop of 0 when its ways back are cut", "", Check.loopOf(x, 0));
        Check.due("depth of 0 then", 0, x.look(0, 3));
    }

    private static void loopOfAll() {
        BlockRuler x = Check.graph(64);
        for (int b = 0; b < 64; b++) {
            x.way(b, (b + 1) % 64);
        }
        Check.due("blocks of the loop", 64, x.look(0, 2));
        Check.due("innermost of 0", 0, x.look(0, 4));
        Check.due("innermost of 63", 0, x.look(63, 4));
        Check.due("greatest depth", 1, x.count(6));
        x.turn(63, 0, 63);
        Check.due("innermost of 63 turned to itself", 63, x.look(63, 4));
        Check.due("innermost of 0 then", -1, x.look(0, 4));
    }

    private static void loopsWithOneHead() {
        BlockRuler x = Check.graph(6, 0, 1, 1, 2, 1, 3, 2, 1, 3, 4, 4, 1, 4, 5, 2, 1);
        Check.due("one loop of all its ways back", "1 2 3 4", Check.loopOf(x, 1));
        Check.due("heads", 1, x.count(3));
        Check.due("ways back, the same one twice", 3, x.count(4));
        Check.due("depth of 4", 1, x.look(4, 3));
        Check.due("depth of 5", 0, x.look(5, 3));
    }
}
