import java.util.NoSuchElementException;

/** What the tests share: telling texts to a TruceWall, and counting answers that are not due. */
final class Check {
    private final String name;
    private int asked = 0;
    private int wrong = 0;
    private String sentence = "";

    Check(String name) {
        this.name = name;
    }

    /** The document's own words that the answers from here on are due by. */
    void sentence(String words) {
        sentence = " '" + words + "'";
    }

    void due(String what, long got, long want) {
        asked++;
        if (got != want) {
            wrong++;
            if (wrong <= 20) {
                System.out.println(name + sentence + ": " + what + " answered " + got + ", due is " + want);
            }
        }
    }

    void due(String what, boolean got, boolean want) {
        due(what, got ? 1 : 0, want ? 1 : 0);
    }

    boolean failed() {
        return wrong > 0;
    }

    void end() {
        System.out.println(name + ": " + (asked - wrong) + " passed, " + wrong + " failed");
        if (wrong > 0 || asked == 0) {
            System.exit(1);
        }
    }

    /** Three longs a row that feed a text, the last filled up with zeros. */
    static long[] packed(String text) {
        int rows = (text.length() + 23) / 24;
        long[] parts = new long[3 * rows];
        for (int i = 0; i < text.length(); i++) {
            parts[i / 8] |= (text.charAt(i) & 255L) << (56 - 8 * (i % 8));
        }
        return parts;
    }

    static int tell(TruceWall wall, String text) {
        long[] parts = packed(text);
        for (int i = 0; i < parts.length; i += 3) {
            wall.feed(parts[i], parts[i + 1], parts[i + 2]);
        }
        return wall.truce();
    }

    static TruceWall told(String text) {
        TruceWall wall = new TruceWall();
        int fault = tell(wall, text);
        if (fault != 0) {
            throw new IllegalStateException("fault " + fault + " in " + text);
        }
        return wall;
    }

    /** All that can be asked of an object without a search, so that two such texts show a change. */
    static String snapshot(TruceWall wall) {
        StringBuilder text = new StringBuilder();
        for (int what = 0; what <= 9; what++) {
            text.append(state(wall, what)).append(' ');
        }
        for (int what = 0; what <= 5; what++) {
            text.append(wall.count(what)).append(' ');
        }
        for (int i = 0; i < 10; i++) {
            for (int what = 0; what <= 3; what++) {
                text.append(wall.column(i, what)).append(' ').append(wall.stone(i, what)).append(' ');
            }
        }
        for (int i = 0; i < state(wall, 9); i++) {
            text.append(wall.act(i, 0)).append(wall.act(i, 1)).append(wall.act(i, 2)).append(' ');
        }
        return text.toString();
    }

    /** -99 stands for NoSuchElementException, which no state answers. */
    static int state(TruceWall wall, int what) {
        try {
            return wall.state(what);
        } catch (NoSuchElementException e) {
            return -99;
        }
    }
}
