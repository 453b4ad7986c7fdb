import java.io.IOException;
import java.nio.file.Files;
import java.nio.file.Path;
import java.util.List;

/**
 * Runs with the answers of a second retelling of the document, which was written from its words alone, without
 * looking at the program or at Oracle. So the answers stay what they were read to be, whatever is changed here.
 */
final class RetoldTest {
    private static final String RUNS = "src/test/runs/retold.txt";

    private NarrowHouse house = new NarrowHouse();
    private int run;

    public static void main(String[] args) throws IOException {
        RetoldTest test = new RetoldTest();
        List<String> lines = Files.readAllLines(Path.of(RUNS));
        for (int k = 0; k < lines.size(); k++) test.line(lines.get(k), k + 1);
        Check.due("runs were found", test.run > 0, true);
        Check.end();
    }

    private void line(String line, int number) {
        int bar = line.indexOf('|');
        String text = bar < 0 ? "" : line.substring(bar + 1).replace("\\n", "\n");
        String[] words = (bar < 0 ? line : line.substring(0, bar)).trim().split(" ");
        String story = RUNS + " " + number + ", run " + run + ": " + line;
        switch (words[0]) {
            case "new" -> {
                house = new NarrowHouse();
                run++;
            }
            case "out" -> Check.due(story, Check.out(house), text);
            case "system", "normal", "unify", "goal" -> taken(story, words, text);
            default -> Check.due(story, asked(words), number(words, words.length - 1));
        }
    }

    /** A text, what is answered to it, and its FAULT and place. */
    private void taken(String story, String[] words, String text) {
        Check.feed(house, text);
        int n = text.length();
        int got = switch (words[0]) {
            case "system" -> house.system(n);
            case "normal" -> house.normal(n);
            case "unify" -> house.unify(n);
            default -> house.goal(n, words[1].equals("full"));
        };
        Check.due(story, got, number(words, words.length - 3));
        Check.due(story + " fault(0)", house.fault(0), number(words, words.length - 2));
        Check.due(story + " fault(1)", house.fault(1), number(words, words.length - 1));
    }

    private long asked(String[] words) {
        int a = number(words, 1);
        int b = number(words, 2);
        return switch (words[0]) {
            case "count" -> house.count(a);
            case "pair" -> house.pair(a, b);
            case "expand" -> house.expand(a);
            case "tree" -> house.tree(a);
            case "node" -> house.node(a, b);
            case "answer" -> house.answer(a, b);
            case "covers" -> house.covers(a, b) ? 1 : 0;
            case "show" -> house.show(a, b);
            default -> Long.MIN_VALUE;
        };
    }

    private static int number(String[] words, int at) {
        return at < words.length ? Integer.parseInt(words[at]) : 0;
    }
}
