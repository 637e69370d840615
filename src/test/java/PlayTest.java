/** Promises 12 (pays), 13 (days), 14 (best), 15 (holds) and 16 (mason), by walls small enough to think through. */
public final class PlayTest {
    private final Check check;

    private PlayTest(Check check) {
        this.check = check;
    }

    private void play(String what, TruceWall wall, int pays, int days, int best, int... holds) {
        check.due(what + ": pays", wall.pays(), pays);
        check.due(what + ": days", wall.days(), days);
        check.due(what + ": best", wall.best(), best);
        for (int i = 0; i < holds.length; i++) {
            check.due(what + ": holds " + i, wall.holds(i), holds[i]);
        }
        check.due(what + ": holds of none", wall.holds(holds.length), -1);
        check.due(what + ": holds of none", wall.holds(-1), -1);
    }

    private void anyOrder() {
        TruceWall wall = Check.told("wall 3 1;stone a plain 1;stone b plain 2;");
        check.due("holds asked first", wall.holds(3), 2);
        Check.tell(wall, "wall 3 1;stone c plain 3;stone a plain 1;");
        check.due("holds asked first of another", wall.holds(1), 3);
        Check.tell(wall, "wall 3 1;stone a plain 1;stone b plain 2;");
        check.due("best asked first", wall.best(), 3);
        wall.set(0, 0, 1);
        check.due("town 0 by the last", wall.mason(0, 1), 0);
        check.due("town 1 by the last", wall.mason(1, 1), 1);
        check.due("town 1 by the first", wall.mason(1, 0), 0);
        wall.undo();
        check.due("town 0 by the first", wall.mason(0, 0), 0);
        check.due("town 0 by the last", wall.mason(0, 1), 1);
    }

    private void bestPlay() {
        play("nothing to do", new TruceWall(), 0, 0, -1);
        play("one each", Check.told("wall 2 1;stone a plain 1;"), 1, 2, 0, 2, 2);
        // The wide stone closes the wall at once: town 0 would pay.
        play("do not close", Check.told("wall 2 1;stone b plain 2;stone a plain 1;"), 1, 2, 1, 1, 2, 2);
        // Behind the wide one town 1 must close; behind a narrow one town 0 must.
        TruceWall wall = Check.told("wall 3 1;stone a plain 1;stone b plain 2;");
        play("leave one", wall, 1, 2, 3, 3, 3, 3, 2, 2);
        wall.set(0, 0, 1);
        play("town 1 wins now", wall, 0, 2, 0, 2, 2, 1);
        wall.set(1, 1, 2);
        play("town 1 closed it", wall, 1, 0, -1);
        wall.undo();
        play("taken back", wall, 0, 2, 0, 2, 2, 1);
        // Town 0 pays whatever it does: it holds it off for 3 days, not for 1.
        play("hold it off", Check.told("wall 3 1;stone c plain 3;stone a plain 1;"), 0, 3, 1, 1, 3, 3, 3);
        // Who can do nothing pays, and the sooner the better for the other.
        play("no room", Check.told("wall 3 1;stone d plain 2;"), 1, 1, 0, 1, 1);
        play("the quicker win", Check.told("wall 5 1;stone d plain 3;stone e plain 2;"), 1, 1, 1, 2, 1, 2, 2, 2, 2, 2);
        play("a gate closes it, too", Check.told("wall 2 1;gates 1;"), 1, 2, 0, 2, 2);
        wall = Check.told("wall 2 1;stone a plain 1;gates 1;");
        wall.leave(1);
        play("behind a gate", wall, 1, 1, 0, 1, 1);
        wall.leave(0);
        play("over", wall, 1, 0, -1);
        wall = Check.told("wall 10 6;stone a plain 1;");
        play("not small", wall, -1, -1, -1);
        check.due("not small: holds", wall.holds(0), -1);
        check.due("not small: mason", wall.mason(0, 0), -1);
    }

    private void masons(String what, TruceWall wall, int... due) {
        for (int town = 0; town <= 1; town++) {
            for (int rule = 0; rule <= 2; rule++) {
                check.due(what + ": mason " + town + " " + rule, wall.mason(town, rule), due[3 * town + rule]);
            }
        }
        int[][] none = {{-1, 0}, {2, 0}, {0, -1}, {0, 3}, {1, 3}, {Integer.MAX_VALUE, 1}};
        for (int[] args : none) {
            check.due(what + ": no mason " + args[0] + " " + args[1], wall.mason(args[0], args[1]), -1);
        }
    }

    private void masonRules() {
        masons("over", new TruceWall(), 0, 0, 0, 0, 0, 0);
        masons("no choice", Check.told("wall 2 1;stone a plain 1;"), 1, 1, 1, 1, 1, 1);
        // Town 0 loses by its last ACT, which closes the wall, and wins by its first.
        masons("last closes", Check.told("wall 2 1;stone a plain 1;stone b plain 2;"), 1, 0, 1, 1, 1, 1);
        masons("first closes", Check.told("wall 2 1;stone b plain 2;stone a plain 1;"), 0, 1, 0, 1, 1, 1);
        // By BEST play town 1 pays. A mason of town 0 with the narrow stone first pays for it.
        masons("leave one", Check.told("wall 3 1;stone a plain 1;stone b plain 2;"), 0, 1, 0, 1, 1, 1);
        // Town 1 goes by the last ACT: the wide stone that closes the wall behind town 0's narrow one.
        TruceWall wall = Check.told("wall 3 1;stone a plain 1;stone b plain 2;");
        wall.set(0, 0, 1);
        masons("town 1 is a mason", wall, 0, 0, 0, 0, 1, 0);
        lowest();
    }

    // Heights 2 0, town 0 on turn: the narrow stone at 0 or at 1. First: 3 0, and the rest is
    // forced, town 1 closes. Last, or lowest: 2 1, which town 1 makes 2 2; then the last ACT is
    // narrow, and town 1 closes, but the first of the lowest is the wide one, which closes.
    private void lowest() {
        TruceWall wall = Check.told("wall 2 3;stone a plain 2;stone b plain 1;");
        wall.set(1, 0, 1);
        wall.set(1, 0, 1);
        masons("lowest", wall, 1, 1, 0, 1, 1, 1);
        // Heights 1 0, town 1 on turn: 1 1 makes a mason of town 0 close it by its last ACT.
        wall = Check.told("wall 2 2;stone a plain 1;stone b plain 2;");
        wall.set(0, 0, 1);
        masons("last", wall, 1, 0, 1, 1, 1, 1);
    }

    public static void main(String[] args) {
        Check check = new Check("PlayTest");
        PlayTest test = new PlayTest(check);
        test.anyOrder();
        test.bestPlay();
        test.masonRules();
        check.end();
    }
}
