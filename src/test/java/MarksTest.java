/** Promise 20 (mark): the TRUCE and all that was done come back, whatever was told between. */
public final class MarksTest {
    private final Check check;

    private MarksTest(Check check) {
        this.check = check;
    }

    private void wrong() {
        TruceWall wall = new TruceWall();
        for (int mark : new int[] {-1, 4, Integer.MIN_VALUE, Integer.MAX_VALUE}) {
            check.due("no mark to lay", wall.mark(mark, false), false);
            check.due("no mark to go back to", wall.mark(mark, true), false);
        }
        for (int mark = 0; mark <= 3; mark++) {
            check.due("nothing is on it", wall.mark(mark, true), false);
        }
        check.due("laid", wall.mark(3, false), true);
        check.due("others stay bare", wall.mark(2, true), false);
        check.due("gone back", wall.mark(3, true), true);
    }

    private void comesBack() {
        TruceWall wall = Check.told("wall 3 2;stone a plain 1;stone b bridge 3;stone l lent 1;fine holes*10+level+day;");
        wall.set(0, 0, 1);
        wall.set(0, 2, 1);
        check.due("laid", wall.mark(1, false), true);
        wall.set(1, 0, 3);
        check.due("laid", wall.mark(2, false), true);
        check.due("pays", wall.pays(), 0);
        check.due("another truce", Check.tell(wall, "wall 2 1;stone z plain 1;gates 1;"), 0);
        check.due("pays", wall.pays(), 1);
        wall.leave(1);
        long[] signs = Check.packed("wall 5 ");
        check.due("signs on the tape", wall.feed(signs[0], 0, 0), 7);
        check.due("gone back", wall.mark(2, true), true);
        check.due("the tape is no part of it", wall.count(5), 7);
        int[] states = {3, -1, 1, 0, 14, 1, 0, 0, 0, 0};
        for (int what = 0; what < states.length; what++) {
            check.due("state " + what, wall.state(what), states[what]);
        }
        check.due("columns", wall.count(0), 3);
        check.due("stones", wall.count(2), 3);
        check.due("kind", wall.stone(2, 0), 4);
        check.due("holes", wall.column(1, 2), 1);
        check.due("acts to take back", wall.count(4), 3);
        check.due("pays", wall.pays(), 0);
        check.due("undo", wall.undo(), true);
        check.due("bill", wall.state(4), 1);
        check.due("set otherwise", wall.set(2, 1, 1), 0);
        check.due("back to the earlier", wall.mark(1, true), true);
        check.due("day", wall.state(0), 2);
        check.due("its height", wall.column(1, 0), 0);
        check.due("the later one is still there", wall.mark(2, true), true);
        check.due("its height", wall.column(1, 0), 2);
        check.due("whose", wall.column(1, 3), 0);
    }

    private void laidAgain() {
        TruceWall wall = Check.told("wall 2 6;stone a plain 1;");
        wall.mark(0, false);
        wall.set(0, 0, 1);
        wall.mark(0, false);
        wall.set(0, 0, 1);
        check.due("a fault leaves marks", Check.tell(wall, "wall"), 1 + 16 * 4);
        check.due("back", wall.mark(0, true), true);
        check.due("the last laid", wall.state(0), 1);
        wall.set(0, 1, 1);
        wall.set(0, 1, 1);
        check.due("back again", wall.mark(0, true), true);
        check.due("what came later is gone", wall.state(0), 1);
        check.due("undo", wall.undo(), true);
        check.due("undo", wall.undo(), false);
        check.due("height", wall.column(0, 0), 0);
    }

    public static void main(String[] args) {
        Check check = new Check("MarksTest");
        MarksTest test = new MarksTest(check);
        test.wrong();
        test.comesBack();
        test.laidAgain();
        check.end();
    }
}
