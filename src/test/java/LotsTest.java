/** Promise 19 (lots). */
public final class LotsTest {
    private final Check check;

    private LotsTest(Check check) {
        this.check = check;
    }

    /** On wall 2 1 the wide stone is ACT 2 of 3; behind another ACT one only is left, drawn, too. */
    private static int[] byHand(int seed, int plays) {
        long g = seed;
        int[] sums = new int[2];
        for (int i = 0; i < plays; i++) {
            g = (g * 1103515245L + 12345L) & 0x7fffffffL;
            if ((g >> 16) % 3 == 2) {
                sums[0]++;
                sums[1]++;
            } else {
                g = (g * 1103515245L + 12345L) & 0x7fffffffL;
                sums[1] += 2;
            }
        }
        return sums;
    }

    private void drawn() {
        TruceWall wall = Check.told("wall 2 1;stone a plain 1;stone b plain 2;");
        for (int seed : new int[] {0, 1, 2, 77, 1234, 9999}) {
            for (int plays : new int[] {1, 2, 3, 10, 99, 100}) {
                int[] due = byHand(seed, plays);
                check.due("town 0 pays, seed " + seed, wall.lots(seed, plays, 0), due[0]);
                check.due("days, seed " + seed, wall.lots(seed, plays, 1), due[1]);
            }
        }
        check.due("nothing was done", wall.state(0), 0);
        wall.set(0, 0, 1);
        check.due("from now on: town 1 closes", wall.lots(5, 10, 0), 0);
        check.due("from now on: a day each", wall.lots(5, 10, 1), 10);
        wall.set(0, 1, 1);
        check.due("over: town 1 pays", wall.lots(5, 10, 0), 0);
        check.due("over: no days", wall.lots(5, 10, 1), 0);
        check.due("over: town 0 pays", new TruceWall().lots(0, 100, 0), 100);
    }

    private void anyWall() {
        TruceWall wall = Check.told("wall 10 6;stone a plain 1;");
        check.due("60 days each", wall.lots(9999, 100, 1), 6000);
        check.due("town 1 closes", wall.lots(9999, 100, 0), 0);
        wall.set(0, 4, 1);
        check.due("59 days each", wall.lots(3, 2, 1), 118);
    }

    private void none() {
        TruceWall wall = Check.told("wall 2 1;stone a plain 1;");
        int[][] wrong = {{-1, 1, 0}, {10000, 1, 0}, {0, 0, 0}, {0, 101, 0}, {0, -1, 1}, {0, 1, -1}, {0, 1, 2},
            {Integer.MAX_VALUE, 1, 0}, {0, Integer.MIN_VALUE, 0}};
        for (int[] args : wrong) {
            check.due("lots of none", wall.lots(args[0], args[1], args[2]), -1);
        }
    }

    public static void main(String[] args) {
        Check check = new Check("LotsTest");
        LotsTest test = new LotsTest(check);
        test.drawn();
        test.anyWall();
        test.none();
        check.end();
    }
}
