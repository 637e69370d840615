import java.nio.file.Files;
import java.nio.file.Path;

/** The examples of README.md are what the class does. */
public final class ReadmeTest {
    private final Check check = new Check("ReadmeTest");
    private final String page;

    private ReadmeTest(String page) {
        this.page = page;
    }

    /** A line of the page, told without the blanks that set it out. */
    private void line(String call, String answer) {
        boolean found = false;
        for (String line : page.split("\n")) {
            String tail = line.startsWith(call) ? line.substring(call.length()).strip() : "";
            found |= tail.startsWith("// " + answer);
        }
        check.due("the page says " + call + " // " + answer, found, true);
    }

    private void number(String call, int got) {
        line(call, got + ":");
    }

    private void calls() {
        TruceWall wall = new TruceWall();
        wall.feed(0x77616C6C20322031L, 0x3B73746F6E652061L, 0x20706C61696E2031L);
        line("wall.feed(0x77616C6C20322031L, 0x3B73746F6E652061L, 0x20706C61696E2031L);",
            "wall 2 1;stone a plain 1");
        wall.feed(0x3B00000000000000L, 0L, 0L);
        line("wall.feed(0x3B00000000000000L, 0L, 0L);", ";");
        number("wall.truce();", wall.truce());
        number("wall.pays();", wall.pays());
        number("wall.days();", wall.days());
        number("wall.set(0, 0, 1);", wall.set(0, 0, 1));
        number("wall.fits(0, 0, 1);", wall.fits(0, 0, 1));
        number("wall.state(1);", wall.state(1));
        line("wall.undo();", String.valueOf(wall.undo()));
    }

    private void exampleTruce() {
        int from = page.indexOf("```text\n") + "```text\n".length();
        String block = page.substring(from, page.indexOf("```", from));
        StringBuilder text = new StringBuilder();
        for (String line : block.split("\n")) {
            text.append(line, 0, line.indexOf(';') + 1).append('\n');
        }
        TruceWall wall = new TruceWall();
        check.due("fault of the example", Check.tell(wall, text.toString()), 0);
        check.due("columns", wall.count(0), 5);
        check.due("high", wall.count(1), 2);
        check.due("stone 0 is plain", wall.stone(0, 0), 0);
        check.due("stone 0 is two wide", wall.stone(0, 1), 2);
        check.due("stone 1 is a bridge", wall.stone(1, 0), 1);
        check.due("each town may leave a gate", wall.state(7) + wall.state(8), 2);
        check.due("stone 1 is set", wall.set(1, 0, 3), 0);
        check.due("the bill", wall.state(4), 9);
    }

    /** README tells how to read a fault. */
    private void fault() {
        int fault = Check.tell(new TruceWall(), "wall 2 1;gates 2;");
        check.due("kind", fault % 16, 4);
        check.due("place", fault / 16, 15);
    }

    public static void main(String[] args) throws Exception {
        ReadmeTest test = new ReadmeTest(Files.readString(Path.of("README.md")));
        test.calls();
        test.exampleTruce();
        test.fault();
        test.check.end();
    }
}
