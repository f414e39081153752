import java.util.ArrayList;
import java.util.Arrays;
import java.util.List;

/**
 * Many runs of calls, all answers against those of a model that is written from the document's
 * terms word for word, with recursion and lists and without regard to speed.
 */
public final class OracleTest {
    /** Numbers that look thrown, the same in each run of the test. */
    private static final class Dice {
        private long state;

        Dice(long seed) {
            state = seed * 0x9E3779B97F4A7C15L + 1;
        }

        int below(int bound) {
            state = state * 6364136223846793005L + 1442695040888963407L;
            return (int) ((state >>> 33) % bound);
        }
    }

    /** An object and the changes told to it; nothing is promised after an object's 512th call. */
    private static final class Run {
        private final List<Check.Ask> told = new ArrayList<>();
        private BlockRuler ruler = new BlockRuler();
        private int calls = 0;

        /** The object for one call more: another one that was told the same if 512 were made. */
        BlockRuler now() {
            if (calls == 512) {
                ruler = new BlockRuler();
                told.forEach(change -> Check.outcome(change, ruler));
                calls = told.size();
            }
            calls++;
            return ruler;
        }

        String change(Check.Ask change) {
            String answer = Check.outcome(change, now());
            told.add(change);
            return answer;
        }
    }

    /** The document's terms, each as a search of its own. */
    private static final class Model {
        final List<List<Integer>> ways = new ArrayList<>();
        List<Integer> order;

        Model() {
            ways.add(new ArrayList<>());
            order = List.of(0);
        }

        boolean has(int b) {
            return b >= 0 && b < ways.size();
        }

        boolean has(int from, int k) {
            return has(from) && k >= 0 && k < ways.get(from).size();
        }

        int block() {
            if (ways.size() == 64) {
                throw new IllegalStateException();
            }
            ways.add(new ArrayList<>());
            return ways.size() - 1;
        }

        int way(int from, int to) {
            if (!has(from) || !has(to)) {
                throw new IllegalArgumentException();
            }
            if (ways.get(from).size() == 8) {
                throw new IllegalStateException();
            }
            ways.get(from).add(to);
            return ways.get(from).size() - 1;
        }

        int cut(int from, int k) {
            if (!has(from, k)) {
                throw new IndexOutOfBoundsException();
            }
            return ways.get(from).remove(k);
        }

        int turn(int from, int k, int to) {
            if (!has(from, k)) {
                throw new IndexOutOfBoundsException();
            }
            if (!has(to)) {
                throw new IllegalArgumentException();
            }
            return ways.get(from).set(k, to);
        }

        void renew() {
            List<Integer> found = new ArrayList<>();
            deep(0, new boolean[64], found);
            order = found;
        }

        private void deep(int b, boolean[] met, List<Integer> found) {
            met[b] = true;
            for (int to : ways.get(b)) {
                if (!met[to]) {
                    deep(to, met, found);
                }
            }
            found.add(0, b);
        }

        int order(int b) {
            return order.indexOf(b);
        }

        boolean reached(int b) {
            return order.contains(b);
        }

        /** Whether ways lead from one block to another without going through a third. */
        boolean leads(int from, int to, int without) {
            return from != without && leads(from, to, without, new boolean[64]);
        }

        private boolean leads(int from, int to, int without, boolean[] met) {
            if (from == to) {
                return true;
            }
            met[from] = true;
            for (int next : ways.get(from)) {
                if (next != without && !met[next] && leads(next, to, without, met)) {
                    return true;
                }
            }
            return false;
        }

        boolean rules(int x, int y) {
            return reached(x) && reached(y) && !leads(0, y, x);
        }

        int lastRuling(int x, int y, int but) {
            int last = -1;
            for (int b : order) {
                if (b != but && rules(b, x) && rules(b, y)) {
                    last = b;
                }
            }
            return last;
        }

        int common(int x, int y) {
            if (!reached(x) || !reached(y)) {
                throw new IllegalArgumentException();
            }
            return lastRuling(x, y, -1);
        }

        int sort(int from, int k) {
            if (!has(from, k) || !reached(from)) {
                return -1;
            }
            int to = ways.get(from).get(k);
            return order(to) > order(from) ? 0 : rules(to, from) ? 1 : 2;
        }

        int sorted(int sort) {
            int found = 0;
            for (int b : order) {
                for (int k = 0; k < ways.get(b).size(); k++) {
                    found += sort(b, k) == sort ? 1 : 0;
                }
            }
            return found;
        }

        List<Integer> loop(int head) {
            List<Integer> beginnings = new ArrayList<>();
            for (int b : order) {
                for (int k = 0; k < ways.get(b).size(); k++) {
                    if (sort(b, k) == 1 && ways.get(b).get(k) == head) {
                        beginnings.add(b);
                    }
                }
            }
            List<Integer> loop = new ArrayList<>();
            for (int b : order) {
                boolean in = b == head && !beginnings.isEmpty();
                for (int beginning : beginnings) {
                    in |= b == beginning || beginning != head && leads(b, beginning, head);
                }
                if (in) {
                    loop.add(b);
                }
            }
            return loop;
        }

        List<Integer> edge(int x) {
            List<Integer> edge = new ArrayList<>();
            for (int y = 0; y < ways.size(); y++) {
                boolean in = false;
                for (int b : order) {
                    in |= rules(x, b) && ways.get(b).contains(y);
                }
                if (in && reached(y) && (y == x || !rules(x, y))) {
                    edge.add(y);
                }
            }
            return edge;
        }

        int ruled(int x) {
            return (int) order.stream().filter(y -> rules(x, y)).count();
        }

        int waysTo(int to) {
            int found = 0;
            for (int b : order) {
                found += (int) ways.get(b).stream().filter(end -> end == to).count();
            }
            return found;
        }
    }

    public static void main(String[] args) {
        for (int seed = 0; seed < 400; seed++) {
            changes(seed, 2 + seed % 9, 60);
        }
        for (int seed = 0; seed < 12; seed++) {
            wholeGraph(seed, 20 + 4 * seed);
        }
        everyGraphOfThree();
        Check.finish();
    }

    private static void changes(int seed, int blocks, int many) {
        Dice dice = new Dice(seed);
        Run x = new Run();
        Model m = new Model();
        addBlocks(blocks, x, m);
        for (int i = 0; i < many; i++) {
            change(seed, dice, blocks, x, m);
            if (i % 4 == 3) {
                compare("seed " + seed + " change " + i + ": ", x, m);
            }
        }
    }

    private static void addBlocks(int blocks, Run x, Model m) {
        for (int i = 1; i < blocks; i++) {
            Check.due("block", Check.outcome(m::block), x.change(BlockRuler::block));
        }
    }

    private static void addWay(String run, int from, int to, Run x, Model m) {
        Check.due(run + "way(" + from + ", " + to + ")", Check.outcome(() -> m.way(from, to)),
                x.change(r -> r.way(from, to)));
    }

    private static void change(int seed, Dice dice, int blocks, Run x, Model m) {
        int from = dice.below(blocks + 2) - 1;
        int to = dice.below(blocks + 2) - 1;
        int k = dice.below(4) - 1;
        int kind = dice.below(10);
        String run = "seed " + seed + ": ";
        if (kind < 6) {
            addWay(run, from, to, x, m);
        } else if (kind < 8) {
            Check.due(run + "turn(" + from + ", " + k + ", " + to + ")",
                    Check.outcome(() -> m.turn(from, k, to)), x.change(r -> r.turn(from, k, to)));
        } else {
            Check.due(run + "cut(" + from + ", " + k + ")", Check.outcome(() -> m.cut(from, k)),
                    x.change(r -> r.cut(from, k)));
        }
    }

    /** Big graphs with a way from each block a little on and others anywhere. */
    private static void wholeGraph(int seed, int blocks) {
        Dice dice = new Dice(1000 + seed);
        Run x = new Run();
        Model m = new Model();
        String run = "graph " + seed + ": ";
        addBlocks(blocks, x, m);
        for (int b = 0; b < blocks; b++) {
            addWay(run, b, (b + 1 + dice.below(3)) % blocks, x, m);
            for (int i = dice.below(3); i > 0; i--) {
                addWay(run, b, Math.floorMod(b + 4 - dice.below(10), blocks), x, m);
            }
        }
        compare(run, x, m);
    }

    /** Three blocks are the fewest that make a knot; each has two ways, one, or none. */
    private static void everyGraphOfThree() {
        int[][] rows = {{}, {0}, {1}, {2}, {0, 0}, {0, 1}, {0, 2}, {1, 0}, {1, 1}, {1, 2}, {2, 0},
            {2, 1}, {2, 2}};
        for (int[] of0 : rows) {
            for (int[] of1 : rows) {
                for (int[] of2 : rows) {
                    graphOfThree(of0, of1, of2);
                }
            }
        }
    }

    private static void graphOfThree(int[]... rows) {
        Run x = new Run();
        Model m = new Model();
        String run = "graph " + Arrays.deepToString(rows) + ": ";
        addBlocks(3, x, m);
        for (int from = 0; from < 3; from++) {
            for (int to : rows[from]) {
                addWay(run, from, to, x, m);
            }
        }
        compare(run, x, m);
    }

    private static void compare(String run, Run x, Model m) {
        m.renew();
        int blocks = m.ways.size();
        List<List<Integer>> loops = new ArrayList<>();
        for (int b = 0; b < blocks; b++) {
            loops.add(m.loop(b));
        }
        int deepest = 0;
        for (int b = -1; b <= blocks; b++) {
            Check.due(run + "order(" + b + ")", m.order(b), x.now().order(b));
            Check.due(run + "at(" + b + ")", b >= 0 && b < m.order.size() ? m.order.get(b) : -1,
                    x.now().at(b));
            Check.due(run + "parent(" + b + ")", m.lastRuling(b, b, b), x.now().parent(b));
            compareWays(run, b, x, m);
            comparePairs(run, b, loops, x, m);
            compareEdge(run, b, x, m);
            deepest = Math.max(deepest, compareLooks(run, b, loops, x, m));
        }
        int all = m.ways.stream().mapToInt(List::size).sum();
        int heads = (int) loops.stream().filter(loop -> !loop.isEmpty()).count();
        int knots = m.sorted(2);
        int[] counts = {blocks, all, m.order.size(), heads, m.sorted(1) + knots, knots, deepest};
        for (int what = 0; what < counts.length; what++) {
            Check.due(run + "count(" + what + ")", counts[what], x.now().count(what));
        }
    }

    private static void compareWays(String run, int b, Run x, Model m) {
        for (int k = -1; k < 9; k++) {
            String name = "(" + b + ", " + k + ")";
            Check.due(run + "end" + name, m.has(b, k) ? m.ways.get(b).get(k) : -1, x.now().end(b, k));
            Check.due(run + "sort" + name, m.sort(b, k), x.now().sort(b, k));
        }
    }

    private static void comparePairs(
            String run, int a, List<List<Integer>> loops, Run x, Model m) {
        for (int b = -1; b <= m.ways.size(); b++) {
            int y = b;
            String name = "(" + a + ", " + b + ")";
            Check.due(run + "rules" + name, m.rules(a, b), x.now().rules(a, b));
            Check.due(run + "common" + name, Check.outcome(() -> m.common(a, y)),
                    Check.outcome(() -> x.now().common(a, y)));
            Check.due(run + "inLoop" + name, m.has(a) && loops.get(a).contains(b), x.now().inLoop(a, b));
        }
    }

    private static void compareEdge(String run, int b, Run x, Model m) {
        List<Integer> edge = m.edge(b);
        for (int i = -1; i <= edge.size() + 1; i++) {
            int want = i >= 0 && i < edge.size() ? edge.get(i) : -1;
            Check.due(run + "edge(" + b + ", " + i + ")", want, x.now().edge(b, i));
        }
    }

    /** Answers the block's depth. */
    private static int compareLooks(
            String run, int b, List<List<Integer>> loops, Run x, Model m) {
        int[] looks = new int[7];
        int depth = 0;
        if (m.has(b)) {
            int least = -1;
            for (int head : m.order) {
                int size = loops.get(head).size();
                if (loops.get(head).contains(b)) {
                    depth++;
                    least = least < 0 || size <= loops.get(least).size() ? head : least;
                }
            }
            int size = loops.get(b).size();
            looks = new int[] {m.ways.get(b).size(), size > 0 ? 1 : 0, size, depth, least,
                m.ruled(b), m.waysTo(b)};
        } else {
            Arrays.fill(looks, -1);
        }
        for (int what = 0; what < looks.length; what++) {
            Check.due(run + "look(" + b + ", " + what + ")", looks[what], x.now().look(b, what));
        }
        return depth;
    }
}
