/** Promises 5 (set), 6 (leave), 7 (fits), 8 (undo), 9 (column), 10 (state) and 11 (act). */
public final class ActsTest {
    private final Check check;

    private ActsTest(Check check) {
        this.check = check;
    }

    private void heights(String what, TruceWall wall, int... due) {
        for (int c = 0; c < due.length; c++) {
            check.due(what + ", height of " + c, wall.column(c, 0), due[c]);
        }
    }

    private void setAll(TruceWall wall, int[]... acts) {
        for (int[] act : acts) {
            int got = act.length == 1 ? wall.leave(act[0]) : wall.set(act[0], act[1], act[2]);
            check.due("act of " + act[0], got, 0);
        }
    }

    private void noSuch() {
        TruceWall wall = Check.told("wall 5 2;stone p plain 2;stone c cut 3;stone t twin 1;stone b bridge 4;");
        int[][] none = {{-1, 0, 1}, {4, 0, 1}, {4, 0, 0}, {Integer.MIN_VALUE, 0, 1}, {Integer.MAX_VALUE, 0, 1}, {0, -1, 2},
            {0, 5, 2}, {0, Integer.MAX_VALUE, 2}, {0, 0, 1}, {0, 0, 3}, {0, 0, 0}, {0, 0, -2}, {1, 0, 0},
            {1, 0, 4}, {1, 0, -1}, {1, 0, Integer.MAX_VALUE}, {2, 2, 1}, {2, 0, 2}, {3, 0, 3}};
        for (int[] act : none) {
            check.due("fits " + act[0] + " " + act[1] + " " + act[2], wall.fits(act[0], act[1], act[2]), 1);
            check.due("set " + act[0] + " " + act[1] + " " + act[2], wall.set(act[0], act[1], act[2]), 1);
        }
        check.due("nothing was done", wall.state(0), 0);
        check.due("beyond the wall", wall.fits(0, 4, 2), 3);
        check.due("beyond the wall", wall.fits(1, 3, 3), 3);
        check.due("beyond the wall", wall.set(3, 2, 4), 3);
        check.due("up to its end", wall.fits(3, 1, 4), 0);
        check.due("a twin on its right", wall.fits(2, 4, 1), 0);
        for (int column : new int[] {-1, 5, Integer.MIN_VALUE, Integer.MAX_VALUE}) {
            check.due("no column to leave", wall.leave(column), 1);
        }
        check.due("no gates", wall.leave(0), 3);
    }

    private void kinds() {
        TruceWall wall = Check.told("wall 4 3;stone p plain 2;stone b bridge 3;stone r round 1;stone t twin 1;"
            + "stone l lent 1;stone c cut 4;");
        setAll(wall, new int[] {0, 1, 2});
        heights("plain", wall, 0, 1, 1, 0);
        check.due("plain not level", wall.fits(0, 0, 2), 5);
        check.due("cut not level", wall.fits(5, 0, 4), 5);
        check.due("cut on one", wall.fits(5, 0, 1), 0);
        check.due("round in a corner", wall.fits(2, 0, 1), 0);
        check.due("round beside a lower one", wall.fits(2, 1, 1), 5);
        check.due("bridge's ends unlike", wall.fits(1, 0, 3), 5);
        setAll(wall, new int[] {3, 0, 1});
        heights("twin", wall, 1, 1, 1, 1);
        check.due("round beside level ones", wall.fits(2, 1, 1), 5);
        setAll(wall, new int[] {4, 1, 1});
        heights("lent", wall, 1, 2, 1, 1);
        check.due("bridge over a higher one", wall.fits(1, 0, 3), 5);
        check.due("round between", wall.fits(2, 2, 1), 5);
        setAll(wall, new int[] {5, 3, 1});
        heights("cut", wall, 1, 2, 1, 2);
        check.due("round between higher ones", wall.fits(2, 2, 1), 0);
        check.due("beyond before not standing", wall.fits(1, 2, 3), 3);
        setAll(wall, new int[] {1, 1, 3});
        heights("bridge", wall, 1, 3, 3, 3);
        check.due("too high", wall.fits(1, 1, 3), 6);
        check.due("too high", wall.fits(0, 1, 2), 6);
        check.due("a twin of which one is too high", wall.fits(3, 0, 1), 6);
        check.due("from the other side", wall.fits(3, 3, 1), 6);
        check.due("not standing before too high", wall.fits(0, 0, 2), 5);
        check.due("round at 1 does not stand", wall.fits(2, 1, 1), 5);
        check.due("who: town 0 set the plain one, the bridge over it", wall.column(1, 3), 0);
        check.due("who: a twin of town 1", wall.column(0, 3), 1);
        check.due("holes in 2", wall.column(2, 2), 1);
        check.due("holes in 1", wall.column(1, 2), 0);
        check.due("holes of town 0", wall.state(5), 1);
        check.due("holes of town 1", wall.state(6), 0);
    }

    private void rounds() {
        TruceWall wall = Check.told("wall 5 3;stone p plain 1;stone r round 1;");
        setAll(wall, new int[] {0, 1, 1});
        check.due("only the left one is higher", wall.fits(1, 2, 1), 5);
        check.due("only the right one is there", wall.fits(1, 0, 1), 0);
        setAll(wall, new int[] {0, 3, 1}, new int[] {0, 4, 1});
        check.due("both are higher", wall.fits(1, 2, 1), 0);
        check.due("only the left one is there, and level", wall.fits(1, 4, 1), 5);
        setAll(wall, new int[] {0, 3, 1});
        check.due("only the left one is there", wall.fits(1, 4, 1), 0);
        setAll(wall, new int[] {0, 2, 1});
        check.due("the left one is level", wall.fits(1, 2, 1), 5);
        setAll(wall, new int[] {0, 2, 1});
        check.due("the first is lower", wall.fits(1, 1, 1), 5);
        setAll(wall, new int[] {0, 0, 1});
        check.due("the first is level", wall.fits(1, 1, 1), 5);
        setAll(wall, new int[] {0, 0, 1});
        check.due("both are higher", wall.fits(1, 1, 1), 0);
    }

    private void bridges() {
        TruceWall wall = Check.told("wall 5 6;stone p plain 1;stone b bridge 4;stone k bridge 2;");
        setAll(wall, new int[] {0, 0, 1}, new int[] {0, 3, 1}, new int[] {0, 0, 1}, new int[] {0, 3, 1},
            new int[] {0, 1, 1}, new int[] {1, 0, 4});
        heights("bridge of 4", wall, 3, 3, 3, 3, 0);
        check.due("holes in 1", wall.column(1, 2), 1);
        check.due("holes in 2", wall.column(2, 2), 2);
        check.due("holes of town 1", wall.state(6), 3);
        check.due("holes of town 0", wall.state(5), 0);
        for (int c = 0; c < 4; c++) {
            check.due("town 1's", wall.column(c, 3), 1);
        }
        check.due("nothing there", wall.column(4, 3), -1);
        check.due("a bridge of 2 needs both", wall.fits(2, 3, 2), 5);
        setAll(wall, new int[] {2, 1, 2}, new int[] {0, 3, 1}, new int[] {0, 0, 1}, new int[] {1, 0, 4});
        check.due("no more holes", wall.column(1, 2), 1);
        check.due("undo", wall.undo(), true);
        heights("taken back", wall, 4, 4, 4, 4, 0);
        for (int i = 0; i < 4; i++) {
            wall.undo();
        }
        heights("the bridge is gone", wall, 2, 1, 0, 2, 0);
        check.due("its holes are gone", wall.column(2, 2), 0);
        check.due("and the town's", wall.state(6), 0);
        check.due("and whose it was", wall.column(2, 3), -1);
        check.due("what lies below is town 0's", wall.column(0, 3), 0);
        check.due("the bill", wall.state(4), 5);
    }

    private void lent() {
        TruceWall wall = Check.told("wall 3 2;stone l lent 2;stone p plain 1;");
        setAll(wall, new int[] {0, 0, 2});
        check.due("town 0's lent one is town 1's", wall.column(0, 3), 1);
        check.due("town 0's lent one is town 1's", wall.column(1, 3), 1);
        setAll(wall, new int[] {0, 0, 2});
        check.due("town 1's lent one is town 0's", wall.column(1, 3), 0);
        check.due("no such column", wall.column(3, 0), -1);
        check.due("no such column", wall.column(-1, 0), -1);
        check.due("no such what", wall.column(0, 4), -1);
        check.due("no such what", wall.column(0, -1), -1);
    }

    private void gates() {
        TruceWall wall = Check.told("wall 4 1;stone p plain 1;stone d plain 2;stone r round 1;stone t twin 1;"
            + "gates 1;");
        check.due("gates of 0", wall.state(7), 1);
        check.due("gates of 1", wall.state(8), 1);
        setAll(wall, new int[] {1});
        check.due("gate of town 0", wall.column(1, 1), 0);
        check.due("no height", wall.column(1, 0), 0);
        check.due("no stone there", wall.column(1, 3), -1);
        check.due("no gate", wall.column(0, 1), -1);
        check.due("gates of 0", wall.state(7), 0);
        check.due("gates of 1", wall.state(8), 1);
        check.due("no fine for a gate", wall.state(4), 0);
        check.due("a gate within", wall.fits(1, 0, 2), 4);
        check.due("a gate under a twin's other", wall.fits(3, 2, 1), 4);
        check.due("a gate is no neighbour", wall.fits(2, 0, 1), 0);
        check.due("but what is beyond is one", wall.fits(2, 2, 1), 5);
        check.due("there is one", wall.leave(1), 4);
        setAll(wall, new int[] {2, 0, 1});
        check.due("all its gates are left, before that there is one", wall.leave(1), 3);
        check.due("all its gates are left", wall.leave(2), 3);
        setAll(wall, new int[] {0, 3, 1});
        check.due("town 1 has one yet, but there is one", wall.leave(1), 4);
        check.due("undo", wall.undo(), true);
        setAll(wall, new int[] {0, 2, 1});
        check.due("town 1: something is built there", wall.leave(0), 5);
        setAll(wall, new int[] {3});
        check.due("gate of town 1", wall.column(3, 1), 1);
        check.due("gates of 1", wall.state(8), 0);
        check.due("closed: each column without a gate is high", wall.state(2), 1);
        check.due("town 1 closed it by a gate", wall.state(3), 1);
        check.due("no such column before over", wall.leave(4), 1);
        check.due("over before all else", wall.leave(0), 2);
        check.due("over before beyond", wall.fits(1, 3, 2), 2);
        check.due("no such stone before over", wall.fits(5, 3, 2), 1);
        check.due("undo", wall.undo(), true);
        check.due("the gate is gone", wall.column(3, 1), -1);
        check.due("and may be left again", wall.state(8), 1);
    }

    private void states() {
        TruceWall wall = Check.told("wall 3 1;stone d plain 2;stone p plain 1;");
        check.due("town 0 on turn", wall.state(1), 0);
        check.due("nobody pays yet", wall.state(3), -1);
        setAll(wall, new int[] {0, 0, 2});
        check.due("day", wall.state(0), 1);
        check.due("town 1 on turn", wall.state(1), 1);
        check.due("one act", wall.state(9), 1);
        setAll(wall, new int[] {1, 2, 1});
        check.due("closed", wall.state(2), 1);
        check.due("over", wall.state(1), -1);
        check.due("who closed it pays", wall.state(3), 1);
        check.due("no act", wall.state(9), 0);
        check.due("acts to take back", wall.count(4), 2);
        wall = Check.told("wall 3 1;stone d plain 2;");
        setAll(wall, new int[] {0, 1, 2});
        check.due("not closed", wall.state(2), 0);
        check.due("but over", wall.state(1), -1);
        check.due("town 1 can do nothing", wall.state(3), 1);
        check.due("refused", wall.set(0, 0, 2), 2);
        for (int what : new int[] {-1, 10, Integer.MIN_VALUE, Integer.MAX_VALUE}) {
            check.due("no state " + what, Check.state(wall, what), -99);
        }
        check.due("undo", wall.undo(), true);
        check.due("no longer over", wall.state(1), 0);
        check.due("undo", wall.undo(), false);
        check.due("day", wall.state(0), 0);
    }

    private void act(TruceWall wall, int i, int stone, int column, int wide) {
        check.due("stone of act " + i, wall.act(i, 0), stone);
        check.due("column of act " + i, wall.act(i, 1), column);
        check.due("wide of act " + i, wall.act(i, 2), wide);
        check.due("nothing else of act " + i, wall.act(i, 3), -1);
        check.due("nothing else of act " + i, wall.act(i, -1), -1);
    }

    private void order() {
        TruceWall wall = Check.told("wall 3 2;stone c cut 3;stone t twin 1;stone b bridge 3;gates 1;");
        int[][] due = {{0, 0, 1}, {0, 0, 2}, {0, 0, 3}, {0, 1, 1}, {0, 1, 2}, {0, 2, 1}, {1, 0, 1}, {1, 2, 1},
            {2, 0, 3}, {-2, 0, 0}, {-2, 1, 0}, {-2, 2, 0}};
        check.due("acts", wall.state(9), due.length);
        for (int i = 0; i < due.length; i++) {
            act(wall, i, due[i][0], due[i][1], due[i][2]);
        }
        check.due("no act -1", wall.act(-1, 0), -1);
        check.due("no act behind the last", wall.act(due.length, 0), -1);
        check.due("no act at all", wall.act(Integer.MAX_VALUE, 1), -1);
        setAll(wall, new int[] {1});
        int[][] next = {{0, 0, 1}, {0, 2, 1}, {1, 0, 1}, {1, 2, 1}, {-2, 0, 0}, {-2, 2, 0}};
        check.due("acts", wall.state(9), next.length);
        for (int i = 0; i < next.length; i++) {
            act(wall, i, next[i][0], next[i][1], next[i][2]);
        }
    }

    private void longest() {
        TruceWall wall = Check.told("wall 10 6;stone p plain 1;fine day;");
        for (int i = 0; i < 60; i++) {
            check.due("set " + i, wall.set(0, i % 10, 1), 0);
        }
        check.due("closed", wall.state(2), 1);
        check.due("day", wall.state(0), 60);
        check.due("bill", wall.state(4), 59 * 60 / 2);
        check.due("to take back", wall.count(4), 60);
        for (int i = 0; i < 60; i++) {
            check.due("undo " + i, wall.undo(), true);
        }
        check.due("no more", wall.undo(), false);
        check.due("bill", wall.state(4), 0);
        check.due("to take back", wall.count(4), 0);
        heights("empty", wall, 0, 0, 0, 0, 0, 0, 0, 0, 0, 0);
    }

    private void newTruce() {
        TruceWall wall = Check.told("wall 3 2;stone b bridge 3;stone p plain 1;gates 1;");
        setAll(wall, new int[] {1, 0, 1}, new int[] {1, 2, 1}, new int[] {0, 0, 3});
        check.due("told again", Check.tell(wall, "wall 3 2;stone b bridge 3;stone p plain 1;gates 1;"), 0);
        heights("nothing is built", wall, 0, 0, 0);
        int[] states = {0, 0, 0, -1, 0, 0, 0, 1, 1, 7};
        for (int what = 0; what < states.length; what++) {
            check.due("state " + what, wall.state(what), states[what]);
        }
        check.due("nothing to take back", wall.undo(), false);
        check.due("no holes", wall.column(1, 2), 0);
        for (int c = 0; c < 3; c++) {
            check.due("nobody's", wall.column(c, 3), -1);
        }
    }

    public static void main(String[] args) {
        Check check = new Check("ActsTest");
        ActsTest test = new ActsTest(check);
        test.noSuch();
        test.kinds();
        test.rounds();
        test.bridges();
        test.lent();
        test.gates();
        test.states();
        test.order();
        test.longest();
        test.newTruce();
        check.end();
    }
}
