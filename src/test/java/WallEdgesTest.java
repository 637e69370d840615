/** Terms, part 2: a test for each sentence that names an edge of ACTS, of what is REFUSED, OVER or TAKEN BACK. */
public final class WallEdgesTest {
    private final Check check = new Check("WallEdgesTest");

    /** An ACT is its stone, column and how wide, or a gate's column alone. */
    private void acts(TruceWall wall, int[]... acts) {
        for (int[] act : acts) {
            int got = act.length == 1 ? wall.leave(act[0]) : wall.set(act[0], act[1], act[2]);
            check.due("act of " + act[0], got, 0);
        }
    }

    private static int[] set(int stone, int column, int wide) {
        return new int[] {stone, column, wide};
    }

    private static int[] leave(int column) {
        return new int[] {column};
    }

    private void refused(int why, TruceWall wall, int stone, int column, int wide) {
        String before = Check.snapshot(wall);
        String what = stone + " " + column + " " + wide;
        check.due("fits " + what, wall.fits(stone, column, wide), why);
        check.due("set " + what, wall.set(stone, column, wide), why);
        check.due("all stays behind set " + what, Check.snapshot(wall).equals(before), true);
    }

    private void gateRefused(int why, TruceWall wall, int column) {
        String before = Check.snapshot(wall);
        check.due("leave " + column, wall.leave(column), why);
        check.due("all stays behind leave " + column, Check.snapshot(wall).equals(before), true);
    }

    private void heights(String what, TruceWall wall, int... due) {
        for (int c = 0; c < due.length; c++) {
            check.due(what + ", height of " + c, wall.column(c, 0), due[c]);
        }
    }

    /** State 0 to 3: DAY, who is on turn, if it is CLOSED, who PAYS. */
    private void ends(String what, TruceWall wall, int day, int turn, int closed, int pays) {
        check.due(what + ": day", wall.state(0), day);
        check.due(what + ": on turn", wall.state(1), turn);
        check.due(what + ": closed", wall.state(2), closed);
        check.due(what + ": pays", wall.state(3), pays);
    }

    private void numberedFromZero() {
        check.sentence("a stone is SET from a column on (numbered from 0), so many columns wide");
        for (int w = 2; w <= 10; w++) {
            for (int n = 1; n <= 4; n++) {
                TruceWall wall = Check.told("wall " + w + " 6;stone p plain " + n + ";stone c cut 1;");
                refused(1, wall, 0, -1, n);
                refused(1, wall, 0, w, n);
                for (int c = 0; c < w; c++) {
                    check.due(n + " wide at " + c + " of " + w, wall.fits(0, c, n), c + n > w ? 3 : 0);
                }
            }
        }
        TruceWall wall = Check.told("wall 4 1;stone p plain 2;");
        acts(wall, set(0, 2, 2));
        heights("at the wall's end", wall, 0, 0, 1, 1);
        acts(wall, set(0, 0, 2));
        heights("at its beginning", wall, 1, 1, 1, 1);
    }

    private void howWide() {
        check.sentence("(cut: 1 to N; others as told");
        TruceWall wall = Check.told("wall 10 6;stone p plain 3;stone b bridge 4;stone r cut 1;stone t twin 1;stone l lent 2;"
            + "stone c cut 3;");
        int[] least = {3, 4, 1, 1, 2, 1};
        int[] most = {3, 4, 1, 1, 2, 3};
        for (int s = 0; s < 6; s++) {
            for (int wide : new int[] {Integer.MIN_VALUE, -1, 0, 1, 2, 3, 4, 5, 10, 11, Integer.MAX_VALUE}) {
                int due = wide >= least[s] && wide <= most[s] ? 0 : 1;
                check.due("stone " + s + ", " + wide + " wide", wall.fits(s, 0, wide), due);
            }
        }
        for (int wide = 1; wide <= 3; wide++) {
            acts(wall, set(5, 3 * (wide - 1), wide));
        }
        heights("cut 1, 2 and 3 wide", wall, 1, 0, 0, 1, 1, 0, 1, 1, 1, 0);
        for (int wide : new int[] {0, 2, -1}) {
            refused(1, Check.told("wall 2 1;stone r round 1;gates 1;"), 0, 0, wide);
        }
    }

    private void twinsColumns() {
        check.sentence("twin: it lies on that column and on W less 1 less that one ... twin: the two columns are one");
        for (int w = 2; w <= 10; w++) {
            for (int c = 0; c < w; c++) {
                TruceWall wall = Check.told("wall " + w + " 1;stone t twin 1;");
                if (2 * c == w - 1) {
                    refused(1, wall, 0, c, 1);
                } else {
                    acts(wall, set(0, c, 1));
                    for (int x = 0; x < w; x++) {
                        check.due("height of " + x + " of " + w, wall.column(x, 0), x == c || x == w - 1 - c ? 1 : 0);
                        check.due("whose " + x + " of " + w, wall.column(x, 3), x == c || x == w - 1 - c ? 0 : -1);
                    }
                }
            }
        }
        TruceWall wall = Check.told("wall 3 1;stone t twin 1;");
        check.due("from two columns of three", wall.state(9), 2);
        check.due("the second", wall.act(1, 1), 2);
    }

    private void heightAtFirst() {
        check.sentence("HEIGHT of a column is 0 at first");
        heights("a new object", new TruceWall(), 0, 0);
        heights("a new truce", Check.told("wall 10 6;stone p plain 1;gates 1;"), 0, 0, 0, 0, 0, 0, 0, 0, 0, 0);
    }

    private void allOneHeight() {
        check.sentence("It STANDS: plain, lent, cut: all its columns have one HEIGHT");
        for (String kind : new String[] {"plain", "lent", "cut"}) {
            for (int raised = 0; raised < 8; raised++) {
                TruceWall wall = Check.told("wall 4 3;stone s " + kind + " 3;stone p plain 1;");
                for (int c = 0; c < 3; c++) {
                    if ((raised >> c & 1) == 1) {
                        acts(wall, set(1, c, 1));
                    }
                }
                check.due(kind + " on " + raised, wall.fits(0, 0, 3), raised == 0 || raised == 7 ? 0 : 5);
            }
        }
        TruceWall wall = Check.told("wall 3 3;stone p plain 1;");
        acts(wall, set(0, 1, 1), set(0, 1, 1));
        check.due("on one column it always does", wall.fits(0, 1, 1), 0);
        check.due("on one column it always does", wall.fits(0, 0, 1), 0);
    }

    private void bridges() {
        check.sentence("bridge: the first and the last one have one HEIGHT, those between none that is greater");
        for (int wide = 2; wide <= 4; wide++) {
            for (int code = 0; code < Math.pow(3, wide); code++) {
                TruceWall wall = Check.told("wall 5 4;stone b bridge " + wide + ";stone p plain 1;");
                int[] height = new int[wide];
                boolean stands = true;
                for (int c = 0, rest = code; c < wide; c++, rest /= 3) {
                    height[c] = rest % 3;
                    for (int i = 0; i < height[c]; i++) {
                        acts(wall, set(1, c, 1));
                    }
                    stands &= height[c] <= height[0];
                }
                stands &= height[wide - 1] == height[0];
                check.due("bridge of " + wide + " on " + code, wall.fits(0, 0, wide), stands ? 0 : 5);
            }
        }
    }

    private void rounds() {
        check.sentence("round: each column next to its own that is there and has no gate is higher");
        String told = "wall 3 3;stone r round 1;stone p plain 1;gates 1;";
        for (int code = 0; code < 27; code++) {
            TruceWall wall = Check.told(told);
            int[] height = {code % 3, code / 3 % 3, code / 9};
            for (int c = 0; c < 3; c++) {
                for (int i = 0; i < height[c]; i++) {
                    acts(wall, set(1, c, 1));
                }
            }
            check.due("at the beginning, " + code, wall.fits(0, 0, 1), height[1] > height[0] ? 0 : 5);
            check.due("between, " + code, wall.fits(0, 1, 1), Math.min(height[0], height[2]) > height[1] ? 0 : 5);
            check.due("at the end, " + code, wall.fits(0, 2, 1), height[1] > height[2] ? 0 : 5);
        }
        TruceWall wall = Check.told(told);
        acts(wall, leave(1));
        check.due("a gate beside it", wall.fits(0, 0, 1), 0);
        check.due("a gate beside it", wall.fits(0, 2, 1), 0);
        wall = Check.told(told);
        acts(wall, leave(0));
        check.due("a gate beside it, and a level one", wall.fits(0, 1, 1), 5);
        acts(wall, set(1, 2, 1));
        check.due("a gate beside it, and a higher one", wall.fits(0, 1, 1), 0);
        wall = Check.told(told);
        acts(wall, leave(0), leave(2));
        check.due("gates on both sides", wall.fits(0, 1, 1), 0);
        acts(wall, set(0, 1, 1), set(0, 1, 1), set(0, 1, 1));
        heights("up to the end", wall, 0, 3, 0);
    }

    private void twinsStand() {
        check.sentence("twin: always");
        TruceWall wall = Check.told("wall 4 6;stone t twin 1;stone p plain 1;");
        acts(wall, set(1, 0, 1), set(1, 0, 1), set(1, 0, 1), set(0, 0, 1), set(0, 3, 1));
        heights("twins on unlike columns", wall, 5, 0, 0, 2);
        acts(wall, set(1, 1, 1));
        check.due("beside a higher one", wall.fits(0, 1, 1), 0);
    }

    private void heightThen() {
        check.sentence("The HEIGHT of its columns is then one more than of its first one (twin: of each one more)");
        TruceWall wall = Check.told("wall 5 6;stone p plain 1;stone b bridge 4;stone t twin 1;stone c cut 4;");
        acts(wall, set(0, 0, 1), set(0, 0, 1), set(0, 3, 1), set(0, 3, 1), set(0, 1, 1), set(1, 0, 4));
        heights("a bridge", wall, 3, 3, 3, 3, 0);
        acts(wall, set(2, 4, 1));
        heights("a twin", wall, 4, 3, 3, 3, 1);
        acts(wall, set(3, 1, 3));
        heights("a cut one", wall, 4, 4, 4, 4, 1);
    }

    private void holes() {
        check.sentence("HOLES: of a bridge, by how much the columns between were lower, together; they are its town's");
        TruceWall wall = Check.told("wall 4 6;stone p plain 1;stone b bridge 4;");
        for (int i = 0; i < 5; i++) {
            acts(wall, set(0, 0, 1), set(0, 3, 1));
        }
        acts(wall, set(1, 0, 4));
        int[] due = {0, 5, 5, 0};
        for (int c = 0; c < 4; c++) {
            check.due("holes in " + c, wall.column(c, 2), due[c]);
        }
        check.due("town 0's", wall.state(5), 10);
        check.due("town 1's", wall.state(6), 0);
        wall = Check.told("wall 3 6;stone p plain 1;stone b bridge 3;stone k bridge 2;");
        acts(wall, set(1, 0, 3));
        check.due("none under a level one", wall.state(5), 0);
        acts(wall, set(2, 0, 2), set(0, 2, 1), set(1, 0, 3));
        check.due("none under a level one", wall.state(6), 0);
        acts(wall, set(0, 0, 1), set(0, 2, 1), set(1, 0, 3), set(0, 0, 1));
        check.due("one under the third", wall.state(5), 1);
        acts(wall, set(0, 2, 1));
        refused(6, wall, 1, 0, 3);
        check.due("what is refused makes none", wall.column(1, 2), 1);
    }

    private void holesOfBoth() {
        TruceWall wall = Check.told("wall 3 6;stone p plain 1;stone b bridge 3;");
        acts(wall, set(0, 0, 1), set(0, 2, 1), set(1, 0, 3), set(0, 0, 1), set(0, 2, 1), set(1, 0, 3));
        check.due("one of each town in one column", wall.column(1, 2), 2);
        check.due("town 0's", wall.state(5), 1);
        check.due("town 1's", wall.state(6), 1);
        wall.undo();
        check.due("town 1's is taken back", wall.state(6), 0);
        check.due("one is left there", wall.column(1, 2), 1);
    }

    private void lentIsTheOthers() {
        check.sentence("they are its town's (lent: the other town's)");
        TruceWall wall = Check.told("wall 2 2;stone l lent 1;stone p plain 1;");
        acts(wall, set(0, 0, 1), set(0, 1, 1));
        check.due("town 0's lent one", wall.column(0, 3), 1);
        check.due("town 1's lent one", wall.column(1, 3), 0);
        acts(wall, set(1, 0, 1), set(1, 1, 1));
        check.due("town 0's own on it", wall.column(0, 3), 0);
        check.due("town 1's own on it", wall.column(1, 3), 1);
        wall.undo();
        check.due("what lies below again", wall.column(1, 3), 0);
        check.due("no holes of a lent one", wall.state(5) + wall.state(6), 0);
    }

    /** Town 1 is on turn; the first column is full, town 0's gate is in the last one. */
    private TruceWall crowded() {
        TruceWall wall = Check.told("wall 5 2;stone p plain 1;stone d plain 2;stone b bridge 3;stone r round 1;stone t twin 1;"
            + "stone c cut 4;gates 1;");
        acts(wall, leave(4), set(0, 0, 1), set(0, 0, 1), set(0, 3, 1), set(0, 1, 1));
        check.due("town 1 is on turn", wall.state(1), 1);
        heights("crowded", wall, 2, 1, 0, 1, 0);
        return wall;
    }

    private void refusedTheFirstOf() {
        check.sentence("REFUSED, the first of: 1 no such stone or column (or what is wide is not as told ...), ... "
            + "3 it goes beyond the wall, 4 there is a gate in one of its columns, 5 it does not STAND, "
            + "6 it would be higher than H");
        TruceWall wall = crowded();
        refused(1, wall, 6, 0, 1);
        refused(1, wall, -1, 0, 1);
        refused(1, wall, 0, 5, 1);
        refused(1, wall, 0, -1, 1);
        refused(1, wall, 0, 4, 2);
        refused(1, wall, 1, 4, 3);
        refused(1, wall, 4, 2, 1);
        refused(1, wall, 4, 4, 2);
        refused(1, wall, 5, 4, 5);
        refused(3, wall, 1, 4, 2);
        refused(3, wall, 2, 3, 3);
        refused(3, wall, 5, 2, 4);
        refused(3, wall, 5, 3, 3);
        refused(4, wall, 0, 4, 1);
        refused(4, wall, 1, 3, 2);
        refused(4, wall, 2, 2, 3);
        refused(4, wall, 3, 4, 1);
        refused(4, wall, 4, 0, 1);
        refused(4, wall, 4, 4, 1);
        refused(4, wall, 5, 1, 4);
        refused(5, wall, 1, 0, 2);
        refused(5, wall, 2, 0, 3);
        refused(5, wall, 3, 0, 1);
        refused(5, wall, 5, 0, 4);
        refused(6, wall, 0, 0, 1);
        refused(6, wall, 5, 0, 1);
        acts(wall, set(2, 1, 3));
        heights("the bridge", wall, 2, 2, 2, 2, 0);
        refused(2, wall, 0, 0, 1);
    }

    private void higherThanH() {
        check.sentence("6 it would be higher than H");
        for (int high = 1; high <= 6; high++) {
            TruceWall wall = Check.told("wall 4 " + high + ";stone p plain 1;stone b bridge 3;stone t twin 1;stone l lent 2;"
                + "stone c cut 3;stone r round 1;");
            for (int i = 1; i < high; i++) {
                acts(wall, set(4, 0, 3));
            }
            check.due("up to H", wall.fits(1, 0, 3), 0);
            acts(wall, set(4, 0, 3));
            refused(6, wall, 0, 0, 1);
            refused(6, wall, 1, 0, 3);
            refused(6, wall, 2, 0, 1);
            refused(6, wall, 2, 3, 1);
            refused(6, wall, 3, 1, 2);
            refused(6, wall, 4, 0, 3);
            refused(6, wall, 4, 2, 1);
            check.due("the last column is bare", wall.fits(0, 3, 1), 0);
        }
        TruceWall wall = Check.told("wall 4 1;stone r round 1;stone p plain 1;gates 1;");
        acts(wall, leave(1), set(0, 0, 1));
        refused(6, wall, 0, 0, 1);
    }

    private void refusedWhenOver() {
        check.sentence("REFUSED, the first of: 1 no such stone or column ..., 2 it is OVER, 3 it goes beyond the wall");
        TruceWall wall = Check.told("wall 5 1;stone d plain 2;stone c cut 3;stone t twin 1;gates 1;");
        acts(wall, leave(4), set(1, 0, 3), set(1, 3, 1));
        ends("closed", wall, 3, -1, 1, 0);
        for (int c = 0; c < 5; c++) {
            refused(2, wall, 0, c, 2);
            refused(2, wall, 1, c, 3);
            refused(c == 2 ? 1 : 2, wall, 2, c, 1);
            gateRefused(2, wall, c);
        }
        refused(1, wall, 3, 0, 1);
        refused(1, wall, 0, 5, 2);
        refused(1, wall, 0, 0, 1);
        refused(1, wall, 1, 0, 4);
        gateRefused(1, wall, 5);
        gateRefused(1, wall, -1);
        wall = Check.told("wall 3 1;stone d plain 2;");
        acts(wall, set(0, 0, 2));
        ends("not closed, but over", wall, 1, -1, 0, 1);
        refused(2, wall, 0, 0, 2);
        refused(2, wall, 0, 1, 2);
        refused(2, wall, 0, 2, 2);
        gateRefused(2, wall, 2);
    }

    private void gateRefusedTheFirstOf() {
        check.sentence("A gate: 1 no such column, 2 it is OVER, 3 the town has left all its gates, 4 there is one, "
            + "5 something is built there");
        TruceWall none = Check.told("wall 3 2;stone p plain 1;");
        for (int column : new int[] {Integer.MIN_VALUE, -1, 3, 10, Integer.MAX_VALUE}) {
            gateRefused(1, none, column);
        }
        gateRefused(3, none, 0);
        acts(none, set(0, 0, 1));
        gateRefused(3, none, 0);
        TruceWall wall = Check.told("wall 5 2;stone p plain 1;gates 1;");
        acts(wall, leave(0));
        gateRefused(1, wall, 5);
        gateRefused(4, wall, 0);
        acts(wall, set(0, 1, 1));
        gateRefused(3, wall, 0);
        gateRefused(3, wall, 1);
        gateRefused(3, wall, 2);
        acts(wall, set(0, 2, 1));
        gateRefused(4, wall, 0);
        gateRefused(5, wall, 1);
        gateRefused(5, wall, 2);
        acts(wall, leave(4), set(0, 1, 1));
        gateRefused(3, wall, 3);
        gateRefused(3, wall, 4);
        check.due("town 0's", wall.column(0, 1), 0);
        check.due("town 1's", wall.column(4, 1), 1);
        check.due("none", wall.column(3, 1), -1);
    }

    private void dayAndTurn() {
        check.sentence("An ACT makes the DAY one more; the other town is on turn then");
        TruceWall wall = Check.told("wall 5 2;stone p plain 1;gates 1;");
        ends("at first", wall, 0, 0, 0, -1);
        acts(wall, leave(0));
        ends("behind a gate", wall, 1, 1, 0, -1);
        gateRefused(4, wall, 0);
        refused(4, wall, 0, 0, 1);
        ends("behind what was refused", wall, 1, 1, 0, -1);
        acts(wall, set(0, 1, 1));
        ends("behind a stone", wall, 2, 0, 0, -1);
        check.due("undo", wall.undo(), true);
        ends("behind undo", wall, 1, 1, 0, -1);
    }

    private void closed() {
        check.sentence("The wall is CLOSED if each column without a gate is H high; it is OVER then, "
            + "and the town that did the last ACT PAYS");
        TruceWall wall = Check.told("wall 2 2;stone p plain 1;");
        acts(wall, set(0, 0, 1), set(0, 1, 1), set(0, 0, 1));
        ends("one short", wall, 3, 1, 0, -1);
        acts(wall, set(0, 1, 1));
        ends("town 1 by a stone", wall, 4, -1, 1, 1);
        wall = Check.told("wall 2 1;stone d plain 2;");
        acts(wall, set(0, 0, 2));
        ends("town 0 by a stone", wall, 1, -1, 1, 0);
        wall = Check.told("wall 3 1;stone p plain 1;gates 1;");
        acts(wall, set(0, 0, 1), set(0, 1, 1));
        ends("one short", wall, 2, 0, 0, -1);
        acts(wall, leave(2));
        ends("town 0 by a gate", wall, 3, -1, 1, 0);
        wall.undo();
        ends("no longer", wall, 2, 0, 0, -1);
        wall = Check.told("wall 2 6;gates 1;");
        acts(wall, leave(1));
        ends("one gate", wall, 1, 1, 0, -1);
        acts(wall, leave(0));
        ends("nothing but gates, by town 1", wall, 2, -1, 1, 1);
    }

    private void stuck() {
        check.sentence("It is OVER, too, if the town on turn can do no ACT: that one PAYS");
        ends("nothing told", new TruceWall(), 0, -1, 0, 0);
        ends("no stone is narrow enough", Check.told("wall 2 6;stone p plain 3;stone b bridge 4;"), 0, -1, 0, 0);
        ends("no column is higher", Check.told("wall 2 6;stone r round 1;"), 0, -1, 0, 0);
        ends("a gate can be left", Check.told("wall 2 6;stone p plain 3;gates 1;"), 0, 0, 0, -1);
        TruceWall wall = Check.told("wall 5 1;stone d plain 2;");
        acts(wall, set(0, 0, 2));
        ends("room for one", wall, 1, 1, 0, -1);
        acts(wall, set(0, 2, 2));
        ends("town 0", wall, 2, -1, 0, 0);
        wall.undo();
        acts(wall, set(0, 3, 2));
        ends("town 0", wall, 2, -1, 0, 0);
        wall = Check.told("wall 5 1;stone d plain 2;");
        acts(wall, set(0, 1, 2));
        ends("room for one", wall, 1, 1, 0, -1);
        wall = Check.told("wall 3 1;stone d plain 2;");
        acts(wall, set(0, 1, 2));
        ends("town 1", wall, 1, -1, 0, 1);
        stuckWithGates();
    }

    private void stuckWithGates() {
        TruceWall wall = Check.told("wall 4 1;stone d plain 2;gates 1;");
        acts(wall, leave(1), set(0, 2, 2));
        ends("town 0 has no gate left, town 1 has one", wall, 2, -1, 0, 0);
        check.due("town 0's gates", wall.state(7), 0);
        check.due("town 1's gates", wall.state(8), 1);
        wall = Check.told("wall 3 1;stone d plain 2;gates 1;");
        acts(wall, set(0, 0, 2));
        ends("town 1 can still leave a gate", wall, 1, 1, 0, -1);
        check.due("one act", wall.state(9), 1);
        acts(wall, leave(2));
        ends("and closes it", wall, 2, -1, 1, 1);
        wall = Check.told("wall 3 1;gates 1;");
        acts(wall, leave(0), leave(1));
        ends("all gates are left", wall, 2, -1, 0, 0);
    }

    private void bill() {
        check.sentence("BILL: the E of all stones set, together");
        TruceWall wall = Check.told("wall 4 2;stone p plain 1;stone d plain 2;gates 1;fine wide*10+day;");
        check.due("nothing set", wall.state(4), 0);
        acts(wall, leave(3));
        check.due("a gate is no stone", wall.state(4), 0);
        acts(wall, set(1, 0, 2));
        check.due("day 1", wall.state(4), 21);
        acts(wall, set(0, 2, 1));
        check.due("both towns' together", wall.state(4), 33);
        refused(4, wall, 1, 2, 2);
        check.due("what is refused costs nothing", wall.state(4), 33);
        wall.undo();
        check.due("taken back", wall.state(4), 21);
    }

    private void order() {
        check.sentence("ACTS in order: stones by number, of each by column, of these by how wide; then gates by column");
        StringBuilder text = new StringBuilder("wall 10 1;gates 1;");
        for (int s = 0; s < 6; s++) {
            text.append("stone ").append((char) ('a' + s)).append(" cut 4;");
        }
        TruceWall wall = Check.told(text.toString());
        int i = 0;
        for (int s = 0; s < 6; s++) {
            for (int c = 0; c < 10; c++) {
                for (int wide = 1; wide <= 4 && c + wide <= 10; wide++) {
                    boolean same = wall.act(i, 0) == s && wall.act(i, 1) == c && wall.act(i, 2) == wide;
                    check.due("act " + i, same, true);
                    i++;
                }
            }
        }
        for (int c = 0; c < 10; c++) {
            check.due("gate " + c, wall.act(i, 0) == -2 && wall.act(i, 1) == c && wall.act(i, 2) == 0, true);
            i++;
        }
        check.due("the most that can be", wall.state(9), i);
        check.due("the most that can be", i, 214);
        check.due("none behind the last", wall.act(i, 0), -1);
    }

    private void takenBack() {
        check.sentence("TAKEN BACK: the last ACT, as far as 60");
        TruceWall wall = Check.told("wall 10 6;stone p plain 1;stone l lent 1;");
        check.due("none yet", wall.undo(), false);
        String[] days = new String[61];
        for (int i = 0; i <= 60; i++) {
            check.due("to take back", wall.count(4), i);
            days[i] = Check.snapshot(wall);
            if (i < 60) {
                acts(wall, set(i % 3 == 0 ? 1 : 0, i / 6, 1));
            }
        }
        ends("sixty acts", wall, 60, -1, 1, 1);
        for (int i = 59; i >= 0; i--) {
            check.due("undo", wall.undo(), true);
            check.due("as on day " + i, Check.snapshot(wall).equals(days[i]), true);
        }
        check.due("no more", wall.undo(), false);
        check.due("nothing changed", Check.snapshot(wall).equals(days[0]), true);
        acts(wall, set(0, 9, 1));
        check.due("what is done anew", wall.count(4), 1);
    }

    public static void main(String[] args) {
        WallEdgesTest test = new WallEdgesTest();
        test.numberedFromZero();
        test.howWide();
        test.twinsColumns();
        test.heightAtFirst();
        test.allOneHeight();
        test.bridges();
        test.rounds();
        test.twinsStand();
        test.heightThen();
        test.holes();
        test.holesOfBoth();
        test.lentIsTheOthers();
        test.refusedTheFirstOf();
        test.higherThanH();
        test.refusedWhenOver();
        test.gateRefusedTheFirstOf();
        test.dayAndTurn();
        test.closed();
        test.stuck();
        test.bill();
        test.order();
        test.takenBack();
        test.check.end();
    }
}
