import java.util.stream.IntStream;

/** Objects on which the sentences of the document are tested, each made by at most 503 calls. */
final class Samples {
    /** Too small, too large, and such as come to a block or a way if a product or a shift wraps. */
    private static final int[] FAR = {
        -1, -2, -8, -63, -64, -(1 << 29), Integer.MIN_VALUE, Integer.MIN_VALUE + 1,
        64, 65, 128, 256, 1 << 28, 1 << 29, (1 << 29) + 1, Integer.MAX_VALUE
    };

    private Samples() {}

    /** Numbers that no block has if there are so many, the first ones behind the last among them. */
    static int[] notOf(int many) {
        return IntStream.concat(IntStream.of(many, many + 1), IntStream.of(FAR))
                .filter(number -> number < 0 || number >= many).distinct().toArray();
    }

    /**
     * 0 -> 1 <-> 2 -> 3 (to itself) -> 1, 0 -> 4 <-> 5 <- 0 a knot, and 6 (to itself) -> 1, which is
     * not reached. ORDER: 0 4 5 1 2 3.
     */
    static BlockRuler mixed() {
        return Check.graph(7, 0, 1, 1, 2, 2, 1, 2, 3, 3, 3, 3, 1, 0, 4, 0, 5, 4, 5, 5, 4, 6, 1, 6, 6);
    }

    /** 64 blocks, all reached; blocks 0 to 54 have 8 ways. */
    static BlockRuler full() {
        BlockRuler x = Check.graph(64);
        for (int i = 0; i < 440; i++) {
            x.way(i / 8, fullEnd(i / 8, i % 8));
        }
        return x;
    }

    static int fullEnd(int from, int k) {
        return (from + 1 + 9 * k) % 64;
    }

    /** 64 blocks without ways. */
    static BlockRuler bare() {
        return Check.graph(64);
    }

    /** 0 -> 1 -> .. -> 63. */
    static BlockRuler row() {
        BlockRuler x = Check.graph(64);
        for (int b = 0; b < 63; b++) {
            x.way(b, b + 1);
        }
        return x;
    }

    /** Block 0 with 8 ways to 0, 1, 2, 0, 1, 2, 0, 1; blocks 1, 2 and 3 have none. */
    static BlockRuler fan() {
        return Check.graph(4, 0, 0, 0, 1, 0, 2, 0, 0, 0, 1, 0, 2, 0, 0, 0, 1);
    }
}
