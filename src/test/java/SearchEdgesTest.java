import java.math.BigInteger;

/** Terms, part 3, and promises 12 to 18: a test for each sentence that names an edge of what SMALL walls are asked. */
public final class SearchEdgesTest {
    private static final int[] WILD = {Integer.MIN_VALUE, -2, -1, 31, 32, 1000, Integer.MAX_VALUE};
    private static final String[] TRUCES = {
        "wall 2 6;stone a plain 1;stone b cut 2;stone c twin 1;gates 1;",
        "wall 3 5;stone a plain 2;stone b bridge 3;stone c round 1;",
        "wall 4 3;stone a lent 1;stone b bridge 4;stone c twin 1;gates 1;",
        "wall 5 2;stone a plain 3;stone b plain 2;stone c round 1;gates 1;",
        "wall 3 2;stone a cut 3;gates 1;",
        "wall 5 1;stone a plain 2;stone b plain 3;",
        "wall 4 2;stone a plain 2;stone b round 1;",
        "wall 2 1;gates 1;",
        "wall 2 1;"};
    private static final String[] LARGEST = {
        "wall 5 2;stone a plain 1;stone b cut 2;stone c twin 1;gates 1;",
        "wall 4 3;stone a plain 2;stone b twin 1;stone c plain 1;gates 1;",
        "wall 3 5;stone a bridge 3;stone b plain 1;stone c twin 1;gates 1;",
        "wall 2 6;stone a cut 2;stone b round 1;gates 1;"};

    private final Check check = new Check("SearchEdgesTest");

    private static boolean isSmall(int w, int h) {
        return w <= 5 && BigInteger.valueOf(h + 1).pow(w).compareTo(BigInteger.valueOf(256)) <= 0;
    }

    private void small() {
        check.sentence("SMALL is a wall of 5 columns at most with (H and 1) to the power of W 256 at most");
        int many = 0;
        for (int w = 2; w <= 10; w++) {
            for (int h = 1; h <= 6; h++) {
                TruceWall wall = Check.told("wall " + w + " " + h + ";stone a plain 1;gates 1;");
                check.due("wall " + w + " " + h, wall.count(3), isSmall(w, h) ? 1 : 0);
                many += wall.count(3);
            }
        }
        check.due("6 of 2, 5 of 3, 3 of 4 and 2 of 5 columns", many, 16);
        check.due("256 itself", Check.told("wall 4 3;").count(3), 1);
        check.due("6 columns, though 2 to the power of 6 is 64", Check.told("wall 6 1;").count(3), 0);
        check.due("at first", new TruceWall().count(3), 1);
    }

    private void askedOfSmallOnes() {
        check.sentence("What is asked below is asked of SMALL ones ... NONE: not SMALL");
        for (String size : new String[] {"3 6", "4 4", "5 3", "6 1", "10 6"}) {
            TruceWall wall = Check.told("wall " + size + ";stone a plain 1;gates 1;");
            noneOf("nothing built on " + size, wall);
            wall.set(0, 0, 1);
            noneOf("something built on " + size, wall);
        }
        TruceWall over = Check.told("wall 6 1;");
        check.due("over", over.state(3), 0);
        noneOf("over", over);
    }

    private void noneOf(String what, TruceWall wall) {
        check.due(what + ": pays", wall.pays(), -1);
        check.due(what + ": days", wall.days(), -1);
        check.due(what + ": best", wall.best(), -1);
        check.due(what + ": holds", wall.holds(0), -1);
        for (int i = 0; i <= 2; i++) {
            check.due(what + ": mason", wall.mason(i & 1, i), -1);
            check.due(what + ": reached", wall.reached(i), -1);
            check.due(what + ": histories", wall.histories(i), -1);
        }
    }

    private void fromNowOn() {
        check.sentence("What is asked below is asked ... from now on");
        for (int w = 2; w <= 5; w++) {
            for (int h = 1; h <= 6; h++) {
                if (isSmall(w, h)) {
                    onlyNarrow(w, h);
                }
            }
        }
    }

    /** With a narrow stone alone each place is a DAY, and who does the last ACT PAYS, whatever the rules. */
    private void onlyNarrow(int w, int h) {
        TruceWall wall = Check.told("wall " + w + " " + h + ";stone a plain 1;");
        int payer = (w * h - 1) % 2;
        for (int day = 0; day <= w * h; day++) {
            String what = "wall " + w + " " + h + " on day " + day;
            boolean over = day == w * h;
            check.due(what + ": pays", wall.pays(), payer);
            check.due(what + ": days", wall.days(), w * h - day);
            check.due(what + ": best", wall.best(), over ? -1 : 0);
            check.due(what + ": holds", wall.holds(0), over ? -1 : w * h - day);
            check.due(what + ": mason", wall.mason(day & 1, day % 3), payer);
            check.due(what + ": reached the end", wall.reached(w * h - day), 1);
            check.due(what + ": none behind it", wall.reached(w * h - day + 1), 0);
            check.due(what + ": lots", wall.lots(day, 3, 1), 3 * (w * h - day));
            check.due(what + ": who pays in lots", wall.lots(day, 3, 0), payer == 0 ? 3 : 0);
            wall.set(0, day / h, 1);
        }
    }

    private void bestPlayGoesOn() {
        check.sentence("BEST play: the town that must PAY in the end whatever it does holds it off for as many DAYS as can be, "
            + "the other one gets it OVER in as few");
        for (String text : TRUCES) {
            TruceWall wall = Check.told(text);
            int payer = wall.pays();
            int days = wall.days();
            for (int day = 0; day < days; day++) {
                check.due("pays in " + text, wall.pays(), payer);
                check.due("days in " + text, wall.days(), days - day);
                check.due("holds of the best in " + text, wall.holds(wall.best()), days - day);
                perform(wall, wall.best());
            }
            check.due("over in " + text, wall.state(1), -1);
            check.due("the one that was told pays in " + text, wall.state(3), payer);
            check.due("pays when over in " + text, wall.pays(), payer);
            check.due("days when over in " + text, wall.days(), 0);
            check.due("best when over in " + text, wall.best(), -1);
            check.due("holds when over in " + text, wall.holds(0), -1);
        }
    }

    private static void perform(TruceWall wall, int i) {
        if (wall.act(i, 0) == -2) {
            wall.leave(wall.act(i, 1));
        } else {
            wall.set(wall.act(i, 0), wall.act(i, 1), wall.act(i, 2));
        }
    }

    private void eachAct() {
        check.sentence("the first ACT that is BEST for the town on turn ... "
            + "In how many DAYS it is OVER behind the i-th ACT, with it");
        for (String text : TRUCES) {
            for (int first = 0; first < 2; first++) {
                TruceWall wall = Check.told(text);
                if (first == 1 && wall.state(9) > 0) {
                    perform(wall, 0);
                }
                eachActOf(text, wall);
            }
        }
    }

    private void eachActOf(String text, TruceWall wall) {
        int town = wall.state(1);
        int many = wall.state(9);
        int best = wall.best();
        int due = -1;
        boolean wins = false;
        int holds = 0;
        for (int i = 0; i < many; i++) {
            int told = wall.holds(i);
            perform(wall, i);
            boolean winsBy = wall.pays() != town;
            check.due("holds " + i + " in " + text, told, 1 + wall.days());
            wall.undo();
            boolean better = winsBy == wins ? (wins ? told < holds : told > holds) : winsBy;
            if (due < 0 || better) {
                due = i;
                wins = winsBy;
                holds = told;
            }
        }
        check.due("best in " + text, best, due);
        for (int i : new int[] {-1, many, many + 1, Integer.MIN_VALUE, Integer.MAX_VALUE}) {
            check.due("holds of none in " + text, wall.holds(i), -1);
        }
    }

    private void whoMustPay() {
        check.sentence("WHO pays, in how many DAYS it is OVER");
        TruceWall wall = Check.told("wall 2 1;stone b plain 2;");
        check.due("town 0 can only close it", wall.pays(), 0);
        check.due("in a day", wall.days(), 1);
        check.due("by its one act", wall.best(), 0);
        wall = Check.told("wall 3 1;stone d plain 2;");
        check.due("town 1 will find no room", wall.pays(), 1);
        check.due("in a day", wall.days(), 1);
        // Town 0 pays by either stone: at once by the wide one, on the third day by narrow ones.
        wall = Check.told("wall 3 1;stone c plain 3;stone a plain 1;");
        check.due("it holds it off", wall.best(), 1);
        check.due("for three days", wall.days(), 3);
        check.due("not for one", wall.holds(0), 1);
        // Town 1 on turn, heights 1 0 0: the wide stone closes it, a narrow one leaves that to town 0.
        wall = Check.told("wall 3 1;stone b plain 2;stone a plain 1;");
        wall.set(1, 0, 1);
        check.due("town 0 must pay", wall.pays(), 0);
        check.due("in two days", wall.days(), 2);
        check.due("not by the first act", wall.best(), 1);
        check.due("by which town 1 would close it", wall.holds(0), 1);
    }

    private void masonsArguments() {
        check.sentence("Promise 16: MASON: who PAYS if a town goes by a rule; NONE: others");
        TruceWall wall = Check.told("wall 3 1;stone a plain 1;stone b plain 2;");
        for (int town = -2; town <= 3; town++) {
            for (int rule = -2; rule <= 4; rule++) {
                boolean asked = town >= 0 && town <= 1 && rule >= 0 && rule <= 2;
                check.due("mason " + town + " " + rule, wall.mason(town, rule) >= 0, asked);
            }
        }
        for (int wild : WILD) {
            check.due("no town " + wild, wall.mason(wild, 0), -1);
            check.due("no rule " + wild, wall.mason(0, wild), -1);
        }
        TruceWall over = new TruceWall();
        for (int i = 0; i < 6; i++) {
            check.due("over: who does", over.mason(i & 1, i % 3), 0);
        }
    }

    private void masons(String what, TruceWall wall, int... due) {
        for (int i = 0; i < 6; i++) {
            check.due(what + ": town " + i / 3 + " by rule " + i % 3, wall.mason(i / 3, i % 3), due[i]);
        }
    }

    private void firstAndLast() {
        check.sentence("MASON: a town does always the first ACT (rule 0), the last ACT (1)");
        // The wide stone closes it at once, a narrow one leaves the end to town 1.
        masons("wide first", Check.told("wall 2 1;stone b plain 2;stone a plain 1;"), 0, 1, 0, 1, 1, 1);
        masons("wide last", Check.told("wall 2 1;stone a plain 1;stone b plain 2;"), 1, 0, 1, 1, 1, 1);
        masons("one act only", Check.told("wall 2 1;stone b plain 2;"), 0, 0, 0, 0, 0, 0);
        // A gate is the last ACT: behind 0 0 G town 1 leaves one, too, and town 0 can do nothing.
        masons("a gate last", Check.told("wall 3 1;stone b plain 2;gates 1;"), 1, 0, 1, 1, 1, 1);
    }

    private void lowest() {
        check.sentence("the first one on a column that is lowest (2: of ACTS those whose first column, or gate, "
            + "has the least HEIGHT of all ACTS' ones, the first)");
        // All are lowest: the first one is the bridge, behind which town 1's gate closes it.
        check.due("of all alike the first", Check.told("wall 3 1;stone a bridge 2;gates 1;").mason(0, 2), 1);
        // Heights 0 1: the twin from column 0 is the first on a lowest one, and town 0 must close it.
        TruceWall wall = Check.told("wall 2 2;stone a twin 1;stone b cut 1;");
        wall.set(1, 1, 1);
        check.due("a twin by the column it is set from", wall.mason(1, 2), 0);
        // A bridge counts by its first column, not by what it spans: the twin comes first, and town 0 is stuck.
        check.due("a bridge by its first column", Check.told("wall 3 2;stone a twin 1;stone b bridge 3;").mason(1, 2), 0);
        // Heights 1 0 1: the gate in the middle is the lowest, and town 0 must close it.
        wall = Check.told("wall 3 2;stone a bridge 3;stone b twin 1;gates 1;");
        wall.set(1, 0, 1);
        check.due("a gate by its column", wall.mason(1, 2), 0);
        // Heights 1 1 0 0 0: the twin from column 3, not from 0, though its other column would be lower.
        wall = Check.told("wall 5 2;stone a bridge 4;stone b twin 1;stone c plain 2;");
        wall.set(2, 0, 2);
        check.due("a twin by no other column", wall.mason(1, 2), 0);
        // Heights 2 0 G 0: the gate's column is 0 high, but no ACT is there.
        wall = Check.told("wall 4 3;stone a cut 2;gates 1;");
        wall.leave(2);
        wall.set(0, 0, 1);
        wall.set(0, 0, 1);
        check.due("of all ACTS' columns alone", wall.mason(0, 2), 0);
    }

    private void masonOfTownOne() {
        check.sentence("who PAYS if the other town plays BEST against it (and knows it)");
        // Town 0 plays against town 1's rule for several DAYS, on the largest walls there are.
        for (String text : LARGEST) {
            TruceWall wall = Check.told(text);
            Reference reference = Reference.told(text);
            for (int day = 0; day < 6; day++) {
                for (int i = 0; i < 6; i++) {
                    check.due("mason " + i + " on day " + day + " in " + text, wall.mason(i / 3, i % 3),
                        reference.mason(i / 3, i % 3));
                }
                goOn(wall, reference, day);
            }
        }
    }

    /** Gates in the last columns first, as walls with these come last in any order; then some ACT. */
    private static void goOn(TruceWall wall, Reference reference, int day) {
        int i = day < 2 ? wall.state(9) - 1 : wall.state(9) / 2;
        int stone = wall.act(i, 0);
        int column = wall.act(i, 1);
        int wide = wall.act(i, 2);
        if (stone == -2) {
            wall.leave(column);
            reference.leave(column);
        } else if (stone >= 0) {
            wall.set(stone, column, wide);
            reference.set(stone, column, wide);
        }
    }

    private void largest() {
        check.sentence("with (H and 1) to the power of W 256 at most");
        for (String text : LARGEST) {
            TruceWall wall = Check.told(text);
            Reference reference = Reference.told(text);
            for (int day = 0; day < 6; day++) {
                String what = " on day " + day + " in " + text;
                check.due("pays" + what, wall.pays(), reference.pays());
                check.due("days" + what, wall.days(), reference.days());
                check.due("best" + what, wall.best(), reference.best());
                check.due("holds" + what, wall.holds(1), reference.holds(1));
                check.due("reached" + what, wall.reached(3), reference.reached(3));
                check.due("histories" + what, wall.histories(day), reference.histories(day));
                goOn(wall, reference, day);
            }
        }
    }

    private void reachedDays() {
        check.sentence("REACHED behind n DAYS (0 to 30)");
        TruceWall wall = Check.told("wall 3 5;stone a plain 1;");
        check.due("0: what is now", wall.reached(0), 1);
        check.due("15: full", wall.reached(15), 1);
        check.due("16: nothing", wall.reached(16), 0);
        check.due("29", wall.reached(29), 0);
        check.due("30", wall.reached(30), 0);
        for (int wild : WILD) {
            check.due("none: " + wild, wall.reached(wild), -1);
        }
        // Heights of up to 5 that make n together.
        int[] due = {1, 3, 6, 10, 15, 21, 25, 27, 27, 25, 21, 15, 10, 6, 3, 1};
        for (int n = 0; n < due.length; n++) {
            check.due("behind " + n, wall.reached(n), due[n]);
        }
    }

    private void reachedUnlike() {
        check.sentence("how many unlike walls (HEIGHTS and columns with gates) there can be");
        String[] alike = {"wall 3 1;stone a plain 1;gates 1;", "wall 3 1;stone a plain 1;stone b lent 1;stone c cut 1;gates 1;"};
        for (String text : alike) {
            TruceWall wall = Check.told(text);
            // Each column 0, 1 or a gate; two gates at most, each of another town, whose makes no odds.
            int[] due = {1, 6, 12, 7, 0};
            for (int n = 0; n < due.length; n++) {
                check.due("behind " + n + " in " + text, wall.reached(n), due[n]);
            }
            wall.leave(1);
            // Behind town 0's gate: two columns are left, and town 1's gate.
            int[] then = {1, 4, 3, 0};
            for (int n = 0; n < then.length; n++) {
                check.due("behind the gate and " + n + " in " + text, wall.reached(n), then[n]);
            }
        }
    }

    private void nothingBehindOver() {
        check.sentence("if all of them can be played (nothing behind what is OVER)");
        TruceWall wall = Check.told("wall 5 1;stone d plain 2;");
        int[] due = {1, 4, 3, 0};
        for (int n = 0; n < due.length; n++) {
            check.due("behind " + n, wall.reached(n), due[n]);
        }
        wall.set(0, 0, 2);
        wall.set(0, 3, 2);
        check.due("over: it is there", wall.reached(0), 1);
        check.due("over: nothing comes", wall.reached(1), 0);
        check.due("over: nothing comes", wall.reached(30), 0);
        check.due("new: it is there", new TruceWall().reached(0), 1);
        check.due("new: nothing comes", new TruceWall().reached(1), 0);
    }

    private void historiesDays() {
        check.sentence("HISTORIES: in how many ways ... from nothing in n DAYS (0 to 30)");
        TruceWall wall = Check.told("wall 3 5;stone a plain 1;");
        check.due("nothing is there, in 0", wall.histories(0), 1);
        check.due("nothing is there, in 1", wall.histories(1), 0);
        check.due("in 30", wall.histories(30), 0);
        for (int wild : WILD) {
            check.due("none: " + wild, wall.histories(wild), -1);
        }
        for (int i = 0; i < 15; i++) {
            wall.set(0, i % 3, 1);
        }
        check.due("full, in 14", wall.histories(14), 0);
        check.due("full, in 15", wall.histories(15), 756756);
        check.due("full, in 16", wall.histories(16), 0);
        wall.undo();
        check.due("one short, in 14", wall.histories(14), 252252);
        check.due("one short, in 0", wall.histories(0), 0);
    }

    private void historiesAsItIs() {
        check.sentence("the wall can have come to be as it is (HEIGHTS and columns with gates)");
        TruceWall wall = Check.told("wall 3 1;stone a plain 1;gates 1;");
        wall.leave(0);
        wall.leave(1);
        // In two DAYS each town leaves one.
        check.due("G G 0", wall.histories(2), 2);
        wall.set(0, 2, 1);
        // The stone ahead of both gates, or behind them; never between them, as both were town 0's.
        check.due("G G 1", wall.histories(3), 4);
        wall = Check.told("wall 3 1;stone a plain 1;gates 1;");
        wall.set(0, 1, 1);
        wall.set(0, 2, 1);
        wall.leave(0);
        check.due("G 1 1, the gate by either town", wall.histories(3), 6);
        // Holes are not seen from outside: full is full.
        wall = Check.told("wall 3 2;stone a plain 1;stone b bridge 3;");
        wall.set(0, 0, 1);
        wall.set(0, 2, 1);
        wall.set(1, 0, 3);
        check.due("2 2 2 in one", wall.histories(1), 0);
        check.due("2 2 2 by two bridges", wall.histories(2), 1);
        check.due("2 2 2 by two stones and a bridge", wall.histories(3), 2);
    }

    private static int power(int base, int exponent, int times) {
        return BigInteger.valueOf(base).pow(exponent).multiply(BigInteger.valueOf(times))
            .mod(BigInteger.valueOf(1_000_000_007L)).intValue();
    }

    private void unlikeActs() {
        check.sentence("modulo 1,000,000,007; unlike ACTS count as unlike ways");
        TruceWall wall = Check.told("wall 2 6;stone t twin 1;");
        for (int n = 0; n <= 6; n++) {
            check.due("a twin from either column, " + n, wall.histories(n), 1 << n);
            wall.set(0, 0, 1);
        }
        StringBuilder six = new StringBuilder("wall 3 5;");
        for (int s = 0; s < 6; s++) {
            six.append("stone ").append((char) ('a' + s)).append(" plain 1;");
        }
        wall = Check.told(six.toString());
        int[] orders = {1, 1, 1, 1, 1, 1, 6, 21, 56, 126, 252, 2772, 16632, 72072, 252252, 756756};
        for (int n = 0; n <= 15; n++) {
            check.due("six stones, " + n, wall.histories(n), power(6, n, orders[n]));
            wall.set(0, n / 5, 1);
        }
    }

    private void asksChangeNothing() {
        check.sentence("What is asked below is asked of SMALL ones, from now on");
        for (String text : TRUCES) {
            TruceWall wall = Check.told(text);
            String before = Check.snapshot(wall);
            wall.pays();
            wall.days();
            wall.best();
            wall.holds(0);
            wall.mason(0, 1);
            wall.reached(3);
            wall.histories(3);
            wall.lots(1, 2, 0);
            check.due("all stays in " + text, Check.snapshot(wall).equals(before), true);
        }
    }

    public static void main(String[] args) {
        SearchEdgesTest test = new SearchEdgesTest();
        test.small();
        test.askedOfSmallOnes();
        test.fromNowOn();
        test.bestPlayGoesOn();
        test.eachAct();
        test.whoMustPay();
        test.masonsArguments();
        test.firstAndLast();
        test.lowest();
        test.masonOfTownOne();
        test.largest();
        test.reachedDays();
        test.reachedUnlike();
        test.nothingBehindOver();
        test.historiesDays();
        test.historiesAsItIs();
        test.unlikeActs();
        test.asksChangeNothing();
        test.check.end();
    }
}
