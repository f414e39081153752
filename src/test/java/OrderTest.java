/** Promises 7 and 8: ORDER. */
public final class OrderTest {
    private static final int[] FAR = {-1, 64, 65, Integer.MIN_VALUE, Integer.MAX_VALUE};

    public static void main(String[] args) {
        promise7Order();
        promise8At();
        waysStandInOrder();
        theLongestRow();
        Check.finish();
    }

    private static void promise7Order() {
        BlockRuler x = Check.graph(6, 0, 1, 0, 2, 1, 3, 2, 3, 3, 1, 4, 0, 4, 5);
        int[] orders = {0, 2, 1, 3, -1, -1};
        for (int b = 0; b < 6; b++) {
            Check.due("order(" + b + ")", orders[b], x.order(b));
        }
        Check.due("order of none such", -1, x.order(6));
        for (int far : FAR) {
            Check.due("order(far)", -1, x.order(far));
        }
    }

    private static void promise8At() {
        BlockRuler x = Check.graph(6, 0, 1, 0, 2, 1, 3, 2, 3, 3, 1, 4, 0, 4, 5);
        Check.due("at", "0 2 1 3", Check.orderOf(x));
        Check.due("at(4), behind the reached", -1, x.at(4));
        for (int far : FAR) {
            Check.due("at(far)", -1, x.at(far));
        }
        x.way(3, 4);
        Check.due("at, with more reached", "0 2 1 3 4 5", Check.orderOf(x));
        x.cut(0, 0);
        Check.due("at, after a cut", "0 2 3 4 5 1", Check.orderOf(x));
    }

    /** The same ends in another order of ways give another ORDER. */
    private static void waysStandInOrder() {
        BlockRuler x = Check.graph(4, 0, 1, 0, 2, 0, 3);
        Check.due("three ways", "0 3 2 1", Check.orderOf(x));
        x.turn(0, 0, 3);
        x.turn(0, 2, 1);
        Check.due("three ways turned", "0 1 2 3", Check.orderOf(x));
        BlockRuler deep = Check.graph(5, 0, 1, 0, 2, 1, 2, 2, 3, 1, 4, 4, 3);
        Check.due("deep before broad", "0 1 4 2 3", Check.orderOf(deep));
    }

    private static void theLongestRow() {
        BlockRuler x = Check.graph(64);
        int at = 0;
        for (int i = 1; i < 64; i++) {
            int next = (at + 27) % 64;
            x.way(at, next);
            at = next;
        }
        for (int i = 0; i < 64; i++) {
            Check.due("at(" + i + ") of the longest row", i * 27 % 64, x.at(i));
            Check.due("order on the longest row", i, x.order(i * 27 % 64));
        }
    }
}
