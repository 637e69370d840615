/** Promise 2 (feed), and the sign count of promise 21. */
public final class TapeTest {
    private static long bytes(int... eight) {
        long all = 0;
        for (int b : eight) {
            all = all << 8 | b & 255;
        }
        return all;
    }

    private static void signs(Check check) {
        TruceWall wall = new TruceWall();
        check.due("nothing", wall.feed(0, 0, 0), 0);
        check.due("edges of what is a sign",
            wall.feed(bytes(10, 9, 11, 13, 31, 32, 126, 127), bytes(128, 255, 0, 129, 'A', 160, 10, 32), 0), 6);
        check.due("-1 is no sign", wall.feed(-1, -1, -1), 6);
        check.due("count(5)", wall.count(5), 6);
        check.due("'A' is at place 3: a token that is none", wall.truce(), 1 + 16 * 2);
        check.due("the tape was taken", wall.count(5), 0);
        check.due("an empty tape", wall.truce(), 1);
    }

    private static void order(Check check) {
        TruceWall wall = new TruceWall();
        // wall 3 2; over three longs, with signs that are left out in between
        wall.feed(bytes('w', 0, 'a', 200, 'l', 1, 'l', 10), bytes('3', 32, 0, 0, 0, 0, 0, '2'),
            bytes(0, 0, 0, 0, 0, 0, 0, ';'));
        check.due("a, b, c, the highest first", wall.truce(), 0);
        check.due("3 columns", wall.count(0), 3);
        check.due("2 high", wall.count(1), 2);
    }

    private static void limit(Check check) {
        TruceWall wall = new TruceWall();
        long blanks = 0x2020202020202020L;
        for (int i = 1; i <= 41; i++) {
            check.due("feed " + i, wall.feed(blanks, blanks, blanks), 24 * i);
        }
        long[] truce = Check.packed("wall 4 4;");
        check.due("993", wall.feed(truce[0], truce[1], 0), 993);
        check.due("up to 1000", wall.feed(blanks, 0x2A00000000000000L, 0), 1000);
        check.due("beyond", wall.feed(blanks, blanks, blanks), 1000);
        check.due("count(5)", wall.count(5), 1000);
        check.due("what was beyond is left out", wall.truce(), 0);
        check.due("4 columns", wall.count(0), 4);
        for (int i = 0; i < 50; i++) {
            wall.feed(blanks, blanks, blanks);
        }
        check.due("the end stands at the text's length", wall.truce(), 1 + 16 * 1000);
    }

    public static void main(String[] args) {
        Check check = new Check("TapeTest");
        signs(check);
        order(check);
        limit(check);
        check.end();
    }
}
