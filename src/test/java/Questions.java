import java.util.ArrayList;
import java.util.List;
import java.util.stream.IntStream;

/** All that can be asked of an object with so many blocks, to see what a call has changed. */
final class Questions {
    record Question(String name, Check.Ask ask) {}

    /** What pairs take the place of each block of a big object, where all pairs would be many. */
    private static final int[] SOME = {-1, 0, 1, 2, 31, 32, 62, 63, 64};

    private Questions() {}

    /** The calls that change nothing, with numbers from one too small to one too large. */
    static List<Question> asking(int blocks) {
        List<Question> all = new ArrayList<>();
        for (int what = -1; what <= 7; what++) {
            int w = what;
            all.add(new Question("count(" + w + ")", x -> x.count(w)));
        }
        for (int number : numbers(blocks)) {
            addOfOne(all, number);
            for (int other : numbers(blocks)) {
                addOfTwo(all, number, other);
            }
        }
        return all;
    }

    /** Calls that change something: what they answer tells what stood before them. */
    static List<Question> changing(int blocks) {
        List<Question> all = new ArrayList<>();
        all.add(new Question("block()", x -> x.block()));
        for (int b : numbers(blocks)) {
            all.add(new Question("way(" + b + ", 0)", x -> x.way(b, 0)));
            all.add(new Question("way(0, " + b + ")", x -> x.way(0, b)));
            for (int k = -1; k <= 8; k++) {
                int way = k;
                all.add(new Question("cut(" + b + ", " + k + ")", x -> x.cut(b, way)));
                all.add(new Question("turn(" + b + ", " + k + ", 0)", x -> x.turn(b, way, 0)));
            }
        }
        return all;
    }

    private static void addOfOne(List<Question> all, int b) {
        all.add(new Question("order(" + b + ")", x -> x.order(b)));
        all.add(new Question("at(" + b + ")", x -> x.at(b)));
        all.add(new Question("parent(" + b + ")", x -> x.parent(b)));
        for (int number = -1; number <= 8; number++) {
            int n = number;
            String name = "(" + b + ", " + n + ")";
            all.add(new Question("end" + name, x -> x.end(b, n)));
            all.add(new Question("sort" + name, x -> x.sort(b, n)));
            all.add(new Question("look" + name, x -> x.look(b, n)));
            all.add(new Question("edge" + name, x -> x.edge(b, n)));
        }
    }

    private static void addOfTwo(List<Question> all, int a, int b) {
        String name = "(" + a + ", " + b + ")";
        all.add(new Question("rules" + name, x -> x.rules(a, b) ? 1 : 0));
        all.add(new Question("common" + name, x -> x.common(a, b)));
        all.add(new Question("inLoop" + name, x -> x.inLoop(a, b) ? 1 : 0));
    }

    private static int[] numbers(int blocks) {
        return blocks > 10 ? SOME : IntStream.rangeClosed(-1, blocks).toArray();
    }
}
