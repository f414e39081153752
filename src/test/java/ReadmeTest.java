import java.io.IOException;
import java.nio.file.Files;
import java.nio.file.Path;
import java.util.List;

/** The example of README.md: each of its lines stands there, and answers what it says. */
public final class ReadmeTest {
    private static List<String> readme;
    private static int lines = 0;

    public static void main(String[] args) throws IOException {
        readme = Files.readAllLines(Path.of("README.md"));
        BlockRuler ruler = new BlockRuler();
        int head = ruler.block();
        int body = ruler.block();
        says("int head = ruler.block();", head);
        says("int body = ruler.block();", body);
        says("ruler.way(0, head);", ruler.way(0, head));
        says("ruler.way(head, body);", ruler.way(head, body));
        says("ruler.way(body, head);", ruler.way(body, head));
        says("ruler.order(body);", ruler.order(body));
        says("ruler.at(2);", ruler.at(2));
        says("ruler.parent(body);", ruler.parent(body));
        says("ruler.rules(head, body);", ruler.rules(head, body));
        says("ruler.common(head, body);", ruler.common(head, body));
        says("ruler.sort(body, 0);", ruler.sort(body, 0));
        says("ruler.inLoop(head, body);", ruler.inLoop(head, body));
        says("ruler.look(head, 2);", ruler.look(head, 2));
        says("ruler.edge(body, 0);", ruler.edge(body, 0));
        says("ruler.edge(body, 1);", ruler.edge(body, 1));
        says("ruler.turn(body, 0, 0);", ruler.turn(body, 0, 0));
        says("ruler.look(head, 1);", ruler.look(head, 1));
        says("ruler.cut(body, 0);", ruler.cut(body, 0));
        says("ruler.count(4);", ruler.count(4));
        long written = readme.stream().filter(line -> line.contains("ruler.")).count();
        Check.due("lines of README.md that this test has", written, lines);
        Check.finish();
    }

    /** The comment behind the call begins with its answer, which a colon may follow. */
    private static void says(String call, Object answer) {
        lines++;
        String comment = readme.stream().filter(line -> line.startsWith(call)).findFirst()
                .map(line -> line.substring(call.length()).strip()).orElse("nothing");
        Check.due("README.md: " + call, "// " + answer, comment.split(":")[0]);
    }
}
