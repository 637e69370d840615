/** Promises 17 (reached) and 18 (histories). */
public final class WaysTest {
    private final Check check;

    private WaysTest(Check check) {
        this.check = check;
    }

    private void reached(String what, TruceWall wall, int... due) {
        for (int days = 0; days < due.length; days++) {
            check.due(what + ": reached " + days, wall.reached(days), due[days]);
        }
        for (int days = due.length; days <= 30; days++) {
            check.due(what + ": reached " + days, wall.reached(days), 0);
        }
        check.due(what + ": reached -1", wall.reached(-1), -1);
        check.due(what + ": reached 31", wall.reached(31), -1);
    }

    private void histories(String what, TruceWall wall, int... due) {
        for (int days = 0; days < due.length; days++) {
            check.due(what + ": histories " + days, wall.histories(days), due[days]);
        }
        for (int days = due.length; days <= 30; days++) {
            check.due(what + ": histories " + days, wall.histories(days), 0);
        }
        check.due(what + ": histories -1", wall.histories(-1), -1);
        check.due(what + ": histories 31", wall.histories(31), -1);
    }

    private void reaching() {
        reached("over", new TruceWall(), 1);
        TruceWall wall = Check.told("wall 2 2;stone a plain 1;");
        reached("from nothing", wall, 1, 2, 3, 2, 1);
        check.due("now", wall.reached(0), 1);
        wall.set(0, 0, 1);
        check.due("now, as it is", wall.reached(0), 1);
        // From 1 0 on: 2 0 and 1 1, then 2 1 and 1 2, then 2 2.
        reached("from now on", wall, 1, 2, 2, 1);
        reached("like stones make like walls", Check.told("wall 2 2;stone a plain 1;stone b lent 1;"), 1, 2, 3, 2, 1);
        // 10 01 G0 0G, then 11 1G G1 GG.
        reached("gates look alike", Check.told("wall 2 1;stone a plain 1;gates 1;"), 1, 4, 4);
        // Behind G 0 0 and 0 of town 0: town 1 may leave one, town 0 none.
        wall = Check.told("wall 3 1;gates 1;");
        reached("only gates", wall, 1, 3, 3);
        wall.leave(0);
        reached("one left", wall, 1, 2);
        reached("stuck", Check.told("wall 3 1;stone d plain 2;"), 1, 2);
        check.due("not small", Check.told("wall 6 1;stone a plain 1;").reached(0), -1);
    }

    private void counting() {
        histories("nothing was done", new TruceWall(), 1);
        TruceWall wall = Check.told("wall 2 2;stone a plain 1;");
        wall.set(0, 0, 1);
        wall.set(0, 1, 1);
        histories("1 1", wall, 0, 0, 2);
        wall.set(0, 0, 1);
        wall.set(0, 1, 1);
        histories("2 2", wall, 0, 0, 0, 0, 6);
        wall = Check.told("wall 2 1;stone a plain 1;stone b lent 1;stone c plain 2;");
        wall.set(2, 0, 2);
        histories("unlike acts", wall, 0, 1, 8);
        // A stone and a gate, in either order, the gate by either town.
        wall = Check.told("wall 2 1;stone a plain 1;gates 1;");
        wall.set(0, 0, 1);
        wall.leave(1);
        histories("1 G", wall, 0, 0, 2);
        // Nothing goes on behind what is over: d at 1 leaves no way to set a second one.
        wall = Check.told("wall 4 1;stone d plain 2;");
        wall.set(0, 0, 2);
        wall.set(0, 2, 2);
        histories("two wide ones", wall, 0, 0, 2);
        check.due("not small", Check.told("wall 6 1;stone a plain 1;").histories(0), -1);
    }

    private void modulus() {
        TruceWall wall = Check.told("wall 2 6;stone a plain 1;stone b plain 1;stone c plain 1;stone d plain 1;"
            + "stone e plain 1;stone f plain 1;");
        for (int i = 0; i < 12; i++) {
            wall.set(0, i % 2, 1);
        }
        // 12 over 6 orders, and any of six stones each time.
        long due = 924L * 2176782336L % 1000000007L;
        check.due("modulo", wall.histories(12), due);
        check.due("no more than a gate's turn", wall.histories(11), 0);
    }

    public static void main(String[] args) {
        Check check = new Check("WaysTest");
        WaysTest test = new WaysTest(check);
        test.reaching();
        test.counting();
        test.modulus();
        check.end();
    }
}
