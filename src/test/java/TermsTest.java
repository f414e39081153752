import java.util.ArrayList;
import java.util.List;
import java.util.Set;
import java.util.function.Supplier;

/** What "The public face" and "Terms" say of all calls together. */
public final class TermsTest {
    private static final String STATE = "throws java.lang.IllegalStateException";
    private static final String ARGUMENT = "throws java.lang.IllegalArgumentException";
    private static final String INDEX = "throws java.lang.IndexOutOfBoundsException";
    private static final int[] ENDS = {
        Integer.MIN_VALUE, -(1 << 29), -64, -1, 0, 1, 6, 7, 8, 54, 63, 64, 127, 1 << 29, Integer.MAX_VALUE
    };

    public static void main(String[] args) {
        Check.sentence("what it is, at most 512 calls: the 512th is answered as the first",
                TermsTest::the512thCall);
        Check.sentence("terms, what throws changes nothing, by how many calls it may be",
                TermsTest::refusedCallsInARow);
        Check.sentence("terms, all is asked of the ways as they are, not as they were",
                TermsTest::thereAndBack);
        Check.sentence("the public face, a call throws what is told of it and nothing else",
                TermsTest::nothingElseIsThrown);
        Check.sentence("terms, a question is answered the same however often it is asked",
                TermsTest::questionsChangeNothing);
        Check.finish();
    }

    private static void the512thCall() {
        List<Questions.Question> all = new ArrayList<>(Questions.asking(1));
        all.addAll(Questions.changing(1));
        for (Questions.Question question : all) {
            BlockRuler x = new BlockRuler();
            for (int call = 1; call < 512; call++) {
                x.count(call % 7);
            }
            Check.due(question.name(), Check.outcome(question.ask(), new BlockRuler()),
                    Check.outcome(question.ask(), x));
        }
    }

    private static void refusedCallsInARow() {
        Check.sameAnswers("500 refused calls", () -> {
            BlockRuler x = new BlockRuler();
            for (int call = 0; call < 100; call++) {
                Check.outcome(() -> x.way(0, 1));
                Check.outcome(() -> x.way(1, 0));
                Check.outcome(() -> x.cut(0, 0));
                Check.outcome(() -> x.turn(0, 0, 0));
                Check.outcome(() -> x.common(0, 1));
            }
            return x;
        }, BlockRuler::new);
    }

    private static void thereAndBack() {
        Check.follows("turned there and back", Samples::mixed, x -> {
            x.turn(2, 1, 6);
            x.count(6);
            return x.turn(2, 1, 3);
        }, Samples::mixed);
        Check.follows("a way more and cut", Samples::mixed, x -> {
            x.way(3, 6);
            x.count(6);
            return x.cut(3, 2);
        }, Samples::mixed);
    }

    private static void nothingElseIsThrown() {
        List<Supplier<BlockRuler>> makers =
                List.of(BlockRuler::new, Samples::mixed, Samples::fan, Samples::bare, Samples::full);
        for (Supplier<BlockRuler> maker : makers) {
            throwsAtMost("block", Set.of(STATE), maker, BlockRuler::block);
            for (int a : ENDS) {
                ofOneNumber(maker, a);
                for (int b : ENDS) {
                    ofTwoNumbers(maker, a, b);
                    for (int c : ENDS) {
                        throwsAtMost("turn", Set.of(INDEX, ARGUMENT), maker, x -> x.turn(a, b, c));
                    }
                }
            }
        }
    }

    private static void ofOneNumber(Supplier<BlockRuler> maker, int a) {
        throwsAtMost("order", Set.of(), maker, x -> x.order(a));
        throwsAtMost("at", Set.of(), maker, x -> x.at(a));
        throwsAtMost("parent", Set.of(), maker, x -> x.parent(a));
        throwsAtMost("count", Set.of(), maker, x -> x.count(a));
    }

    private static void ofTwoNumbers(Supplier<BlockRuler> maker, int a, int b) {
        throwsAtMost("way", Set.of(ARGUMENT, STATE), maker, x -> x.way(a, b));
        throwsAtMost("cut", Set.of(INDEX), maker, x -> x.cut(a, b));
        throwsAtMost("end", Set.of(), maker, x -> x.end(a, b));
        throwsAtMost("rules", Set.of(), maker, x -> x.rules(a, b) ? 1 : 0);
        throwsAtMost("common", Set.of(ARGUMENT), maker, x -> x.common(a, b));
        throwsAtMost("sort", Set.of(), maker, x -> x.sort(a, b));
        throwsAtMost("inLoop", Set.of(), maker, x -> x.inLoop(a, b) ? 1 : 0);
        throwsAtMost("look", Set.of(), maker, x -> x.look(a, b));
        throwsAtMost("edge", Set.of(), maker, x -> x.edge(a, b));
    }

    private static void throwsAtMost(
            String call, Set<String> told, Supplier<BlockRuler> maker, Check.Ask ask) {
        String outcome = Check.outcome(ask, maker.get());
        if (outcome.startsWith("throws") && !told.contains(outcome)) {
            Check.due(call, "one of " + told, outcome);
        } else {
            Check.due(call, outcome, outcome);
        }
    }

    private static void questionsChangeNothing() {
        for (Questions.Question question : Questions.asking(7)) {
            BlockRuler x = Samples.mixed();
            String first = Check.outcome(question.ask(), x);
            for (int i = 0; i < 5; i++) {
                Check.due(question.name() + " again", first, Check.outcome(question.ask(), x));
            }
        }
    }
}
