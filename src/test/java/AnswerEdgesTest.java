import java.math.BigInteger;
import java.util.NoSuchElementException;

/** Terms, part 4, and promises 1, 2, 4 to 11 and 19 to 21: a test for each sentence that names an edge of an answer. */
public final class AnswerEdgesTest {
    private static final int[] WILD = {Integer.MIN_VALUE, Integer.MIN_VALUE + 1, -100, -3, -2, -1, 10, 11, 16, 32, 64, 128, 256,
        1000, 65536, Integer.MAX_VALUE - 1, Integer.MAX_VALUE};
    private static final String FULL = "wall 10 6;stone a plain 4;stone b bridge 3;stone c round 1;stone d twin 1;stone e lent 2;"
        + "stone f cut 4;gates 1;";

    private final Check check = new Check("AnswerEdgesTest");

    private void newObject() {
        check.sentence("Promise 1: A wall of two columns, one high, no stone");
        TruceWall wall = new TruceWall();
        int[] counts = {2, 1, 0, 1, 0, 0};
        for (int what = 0; what < counts.length; what++) {
            check.due("count " + what, wall.count(what), counts[what]);
        }
        int[] states = {0, -1, 0, 0, 0, 0, 0, 0, 0, 0};
        for (int what = 0; what < states.length; what++) {
            check.due("state " + what, Check.state(wall, what), states[what]);
        }
        check.due("no second column more", wall.column(2, 0), -1);
        check.due("NONE", TruceWall.NONE, -1);
        TruceWall other = new TruceWall();
        Check.tell(wall, FULL);
        wall.mark(0, false);
        check.due("another object has its own truce", other.count(0), 2);
        check.due("and its own marks", other.mark(0, true), false);
    }

    private void feed() {
        check.sentence("Promise 2: Up to 24 signs come behind the TAPE: the bytes of a, b, c, of each the highest first");
        TruceWall wall = new TruceWall();
        check.due("none", wall.feed(0L, 0L, 0L), 0);
        check.due("none of -1", wall.feed(-1L, -1L, -1L), 0);
        check.due("none of the least", wall.feed(Long.MIN_VALUE, Long.MIN_VALUE, Long.MIN_VALUE), 0);
        // The greatest long: 127 and seven 255.
        check.due("none of the greatest", wall.feed(Long.MAX_VALUE, Long.MAX_VALUE, Long.MAX_VALUE), 0);
        long w = 0x7777777777777777L;
        check.due("24", wall.feed(w, w, w), 24);
        check.due("behind them", wall.feed(0x20L, w, 0x2000000000000000L), 34);
        check.due("a word of 24 letters", wall.truce(), 1);
        // The places of a FAULT show where each byte came to stand.
        for (int at = 0; at < 24; at++) {
            long[] parts = {0x2020202020202020L, 0x2020202020202020L, 0x2020202020202020L};
            parts[at / 8] ^= (0x20L ^ 'x') << 56 - 8 * (at % 8);
            wall.feed(parts[0], parts[1], parts[2]);
            check.due("x at " + at, wall.truce(), 1 + 16 * at);
        }
    }

    private void beyondThousand() {
        check.sentence("Promise 2: others ..., and what is beyond 1,000, are left out: how many there are");
        TruceWall wall = new TruceWall();
        long blanks = 0x2020202020202020L;
        for (int i = 0; i < 41; i++) {
            wall.feed(blanks, blanks, blanks);
        }
        check.due("984", wall.count(5), 984);
        check.due("16 of 24 come", wall.feed(blanks, blanks, 0x7878787878787878L), 1000);
        check.due("none comes", wall.feed(0x7878787878787878L, 0L, 0L), 1000);
        check.due("none that is no sign, either", wall.feed(-1L, 0L, 0L), 1000);
        check.due("only blanks were taken", wall.truce(), 1 + 16 * 1000);
        // What is no sign takes no room: 992 signs, and eight more among others.
        for (int i = 0; i < 124; i++) {
            wall.feed(0L, blanks, -1L);
        }
        check.due("992", wall.count(5), 992);
        check.due("999", wall.feed(0x77616C6C20320920L, 0L, 0L), 999);
        check.due("1000", wall.feed(0x313B3B3B3B3B3B3BL, 0L, 0L), 1000);
        check.due("the end is due to be a ;", wall.truce(), 1 + 16 * 1000);
    }

    private void stones() {
        check.sentence("Promise 4: Of a stone, what 0: its KIND ... 1: how wide; NONE: others");
        TruceWall wall = Check.told(FULL);
        int[] wides = {4, 3, 1, 1, 2, 4};
        for (int s = -1; s <= 6; s++) {
            for (int what = -1; what <= 2; what++) {
                boolean known = s >= 0 && s <= 5 && what >= 0 && what <= 1;
                check.due("stone " + s + " " + what, wall.stone(s, what), !known ? -1 : what == 0 ? s : wides[s]);
            }
        }
        for (int wild : WILD) {
            check.due("no stone " + wild, wall.stone(wild, 0), -1);
            check.due("no what " + wild, wall.stone(0, wild), -1);
            check.due("no stone is told", new TruceWall().stone(wild, 0), -1);
        }
        check.due("no stone is told", new TruceWall().stone(0, 0), -1);
    }

    private void setLeaveAndFits() {
        check.sentence("Promises 5 to 7: 0, or why it is REFUSED");
        TruceWall wall = Check.told(FULL);
        String before = Check.snapshot(wall);
        for (int wild : WILD) {
            check.due("set of stone " + wild, wall.set(wild, 0, 1), 1);
            check.due("set on column " + wild, wall.set(5, wild, 1), 1);
            check.due("set as wide as " + wild, wall.set(5, 0, wild), 1);
            check.due("fits of stone " + wild, wall.fits(wild, 0, 1), 1);
            check.due("fits on column " + wild, wall.fits(5, wild, 1), 1);
            check.due("fits as wide as " + wild, wall.fits(5, 0, wild), 1);
            check.due("leave in " + wild, wall.leave(wild), 1);
        }
        check.due("fits does nothing", wall.fits(0, 0, 4), 0);
        check.due("nothing was done", Check.snapshot(wall).equals(before), true);
        check.due("set does", wall.set(0, 0, 4), 0);
        check.due("leave does", wall.leave(4), 0);
        check.due("two days", wall.state(0), 2);
    }

    private void undo() {
        check.sentence("Promise 8: The last ACT is TAKEN BACK: true; false: there is none");
        TruceWall wall = new TruceWall();
        check.due("a new object", wall.undo(), false);
        Check.tell(wall, "wall 3 1;stone a plain 1;gates 1;");
        check.due("a new truce", wall.undo(), false);
        wall.set(0, 3, 1);
        check.due("a refused call is no act", wall.undo(), false);
        String bare = Check.snapshot(wall);
        wall.leave(2);
        String gate = Check.snapshot(wall);
        wall.set(0, 0, 1);
        check.due("a stone", wall.undo(), true);
        check.due("as it was", Check.snapshot(wall).equals(gate), true);
        check.due("a gate", wall.undo(), true);
        check.due("as it was", Check.snapshot(wall).equals(bare), true);
        check.due("none", wall.undo(), false);
        check.due("and it stays so", Check.snapshot(wall).equals(bare), true);
        wall.leave(2);
        Check.tell(wall, "wall 3 1;stone a plain 1;gates 1;");
        check.due("a new truce has no acts", wall.undo(), false);
        wall.leave(0);
        Check.tell(wall, "wall");
        check.due("behind a fault the act is still there", wall.undo(), true);
    }

    private void columns() {
        check.sentence("Promise 9: Of a column, what 0: HEIGHT, 1: the town that left a gate there (NONE: none), "
            + "2: HOLES in it, 3: whose the highest stone is (NONE: nothing there); NONE: others");
        TruceWall wall = Check.told("wall 10 6;stone p plain 1;stone b bridge 3;stone l lent 1;gates 1;");
        wall.set(0, 0, 1);
        wall.set(0, 2, 1);
        wall.set(1, 0, 3);
        wall.leave(9);
        wall.leave(4);
        wall.set(2, 5, 1);
        int[][] due = {{2, -1, 0, 0}, {2, -1, 1, 0}, {2, -1, 0, 0}, {0, -1, 0, -1}, {0, 0, 0, -1}, {1, -1, 0, 0},
            {0, -1, 0, -1}, {0, -1, 0, -1}, {0, -1, 0, -1}, {0, 1, 0, -1}};
        for (int c = 0; c < 10; c++) {
            for (int what = 0; what < 4; what++) {
                check.due("column " + c + " " + what, wall.column(c, what), due[c][what]);
            }
            check.due("no what 4 of " + c, wall.column(c, 4), -1);
            check.due("no what -1 of " + c, wall.column(c, -1), -1);
        }
        for (int wild : WILD) {
            for (int what = -1; what <= 4; what++) {
                check.due("no column " + wild, wall.column(wild, what), -1);
            }
            check.due("no what " + wild, wall.column(0, wild), -1);
        }
        for (int w = 2; w <= 9; w++) {
            check.due("no column behind the last", Check.told("wall " + w + " 1;").column(w, 0), -1);
            check.due("the last", Check.told("wall " + w + " 1;").column(w - 1, 0), 0);
        }
    }

    private static int thrown(TruceWall wall, int what) {
        try {
            wall.state(what);
            return 0;
        } catch (NoSuchElementException e) {
            return e.getClass() == NoSuchElementException.class ? 1 : 2;
        } catch (RuntimeException e) {
            return 3;
        }
    }

    private void states() {
        check.sentence("Promise 10: NoSuchElementException: another what");
        TruceWall[] walls = {new TruceWall(), Check.told(FULL)};
        for (TruceWall wall : walls) {
            String before = Check.snapshot(wall);
            for (int what = 0; what <= 9; what++) {
                check.due("state " + what, thrown(wall, what), 0);
            }
            for (int wild : WILD) {
                check.due("no state " + wild, thrown(wall, wild), 1);
            }
            check.due("all stays", Check.snapshot(wall).equals(before), true);
        }
    }

    private void gatesThatMayBeLeft() {
        check.sentence("Promise 10: 7, 8: gates that town 0, 1 may leave, 9: how many ACTS can be done");
        TruceWall wall = Check.told("wall 4 1;stone p plain 1;gates 1;");
        int[][] due = {{1, 1, 8}, {0, 1, 6}, {0, 0, 2}, {0, 0, 1}, {0, 0, 0}};
        for (int day = 0; day < due.length; day++) {
            for (int i = 0; i < 3; i++) {
                check.due("state " + (7 + i) + " on day " + day, wall.state(7 + i), due[day][i]);
            }
            check.due("act behind the last on day " + day, wall.act(due[day][2], 0), -1);
            if (day < 2) {
                wall.leave(day);
            } else {
                wall.set(0, day, 1);
            }
        }
        wall.undo();
        wall.undo();
        wall.undo();
        check.due("a gate that is taken back may be left again", wall.state(8), 1);
        check.due("the other stays", wall.state(7), 0);
        check.due("none without gates", Check.told("wall 4 1;stone p plain 1;gates 0;").state(7), 0);
    }

    private void acts() {
        check.sentence("Promise 11: The i-th ACT that can be done, what 0: its stone (-2: a gate), 1: column, "
            + "2: how wide (0: a gate); NONE: others");
        TruceWall wall = Check.told("wall 3 1;stone d plain 2;stone t twin 1;gates 1;");
        int[][] due = {{0, 0, 2}, {0, 1, 2}, {1, 0, 1}, {1, 2, 1}, {-2, 0, 0}, {-2, 1, 0}, {-2, 2, 0}};
        for (int i = -2; i <= 8; i++) {
            for (int what = -1; what <= 3; what++) {
                boolean known = i >= 0 && i < due.length && what >= 0 && what <= 2;
                check.due("act " + i + " " + what, wall.act(i, what), known ? due[i][what] : -1);
            }
        }
        for (int wild : WILD) {
            check.due("no act " + wild, wall.act(wild, 0), -1);
            check.due("no what " + wild, wall.act(0, wild), -1);
        }
        check.due("over", new TruceWall().act(0, 0), -1);
        check.due("over", new TruceWall().act(-1, 0), -1);
    }

    /** On wall 2 1 the wide stone is ACT 2 of 3, and closes it; behind a narrow one a single ACT is drawn. */
    private static int[] drawn(int seed, int plays) {
        BigInteger g = BigInteger.valueOf(seed);
        int[] sums = new int[2];
        for (int play = 0; play < plays; play++) {
            for (int many = 3; many > 0;) {
                g = g.multiply(BigInteger.valueOf(1103515245)).add(BigInteger.valueOf(12345)).mod(BigInteger.ONE.shiftLeft(31));
                boolean wide = many == 3 && g.shiftRight(16).intValue() % 3 == 2;
                sums[0] += wide ? 1 : 0;
                sums[1]++;
                many = wide || many == 1 ? 0 : 1;
            }
        }
        return sums;
    }

    private void draws() {
        check.sentence("A DRAW below m: g becomes (g * 1103515245 + 12345) modulo 2147483648 (g is the SEED at first); "
            + "it is g / 65536, cut, modulo m");
        for (int from = 0; from < 10000; from += 500) {
            TruceWall wall = Check.told("wall 2 1;stone a plain 1;stone b plain 2;");
            for (int seed = from; seed < from + 500; seed++) {
                int what = seed % 2;
                int plays = 1 + seed % 7;
                check.due("seed " + seed, wall.lots(seed, plays, what), drawn(seed, plays)[what]);
            }
        }
        // Six cut stones and gates on the widest wall: the most ACTS to draw from.
        StringBuilder text = new StringBuilder("wall 10 6;gates 1;");
        for (int s = 0; s < 6; s++) {
            text.append("stone ").append((char) ('a' + s)).append(" cut 4;");
        }
        TruceWall wall = Check.told(text.toString());
        Reference reference = Reference.told(text.toString());
        for (int what = 0; what <= 1; what++) {
            check.due("the most acts, " + what, wall.lots(9999, 3, what), reference.lots(9999, 3, what));
        }
    }

    private void lots() {
        check.sentence("LOTS: plays (1 to 100) from now on ... Promise 19: LOTS by a SEED (0 to 9999), "
            + "what 0: ..., 1: ...; NONE: others");
        TruceWall wall = Check.told("wall 2 1;stone a plain 1;stone b plain 2;");
        for (int seed : new int[] {0, 9999}) {
            for (int plays : new int[] {1, 100}) {
                for (int what = 0; what <= 1; what++) {
                    check.due("lots", wall.lots(seed, plays, what), drawn(seed, plays)[what]);
                }
            }
        }
        int[][] none = {{-1, 1, 0}, {10000, 1, 0}, {0, 0, 0}, {0, 101, 0}, {0, 1, -1}, {0, 1, 2}, {-1, 0, 2}};
        for (int[] args : none) {
            check.due("lots " + args[0] + " " + args[1] + " " + args[2], wall.lots(args[0], args[1], args[2]), -1);
        }
        for (int wild : WILD) {
            check.due("seed " + wild, wall.lots(wild, 1, 0) == -1, wild < 0 || wild > 9999);
            check.due("plays " + wild, wall.lots(1, wild, 1) == -1, wild < 1 || wild > 100);
            check.due("what " + wild, wall.lots(1, 1, wild), -1);
        }
        check.due("nothing was done", wall.state(0), 0);
        wall.set(0, 0, 1);
        check.due("from now on: a day", wall.lots(7, 100, 1), 100);
        check.due("from now on: town 1", wall.lots(7, 100, 0), 0);
        wall.set(0, 1, 1);
        check.due("over: no day", wall.lots(7, 100, 1), 0);
        check.due("over: town 1 pays", wall.lots(7, 100, 0), 0);
        check.due("over: town 0 pays", new TruceWall().lots(7, 100, 0), 100);
        check.sentence("LOTS: ... (Any wall.)");
        wall = Check.told("wall 10 6;stone a plain 1;");
        check.due("not small", wall.count(3), 0);
        check.due("sixty days each", wall.lots(0, 100, 1), 6000);
        check.due("town 1 closes it", wall.lots(0, 100, 0), 0);
        check.due("none of 101", wall.lots(0, 101, 0), -1);
    }

    private void marks() {
        check.sentence("MARKS 0 to 3 hold the TRUCE and all that was done");
        TruceWall wall = new TruceWall();
        String[] held = new String[4];
        for (int mark = 0; mark <= 3; mark++) {
            Check.tell(wall, "wall " + (4 + mark) + " 2;stone a plain 1;stone b bridge 3;stone l lent 1;gates 1;"
                + "fine day+holes*9;");
            wall.set(0, 0, 1);
            wall.set(2, 2, 1);
            wall.set(1, 0, 3);
            for (int i = 0; i < mark; i++) {
                wall.set(0, 3, 1);
            }
            held[mark] = Check.snapshot(wall);
            check.due("laid " + mark, wall.mark(mark, false), true);
        }
        Check.tell(wall, "wall 2 1;");
        for (int mark : new int[] {2, 0, 3, 3, 1, 0}) {
            check.due("gone back to " + mark, wall.mark(mark, true), true);
            check.due("all of " + mark, Check.snapshot(wall).equals(held[mark]), true);
        }
        for (int i = 0; i < 3; i++) {
            check.due("its acts are taken back", wall.undo(), true);
        }
        check.due("no more", wall.undo(), false);
        check.due("gone back again", wall.mark(0, true), true);
        check.due("all of it", Check.snapshot(wall).equals(held[0]), true);
    }

    private void marksThatAreNone() {
        check.sentence("Promise 20: A MARK is laid (back: gone back to): true; false: none such, nothing is on it (back)");
        TruceWall wall = Check.told("wall 3 1;stone a plain 1;gates 1;");
        wall.leave(1);
        String before = Check.snapshot(wall);
        for (int mark = -1; mark <= 4; mark++) {
            check.due("nothing is on " + mark, wall.mark(mark, true), false);
        }
        for (int wild : WILD) {
            check.due("none such to lay " + wild, wall.mark(wild, false), false);
            check.due("none such to go back to " + wild, wall.mark(wild, true), false);
        }
        check.due("4 is none", wall.mark(4, false), false);
        check.due("4 is still none", wall.mark(4, true), false);
        check.due("all stays", Check.snapshot(wall).equals(before), true);
        check.due("laid", wall.mark(0, false), true);
        check.due("nothing is on the next", wall.mark(1, true), false);
        wall.set(0, 0, 1);
        check.due("laid over it", wall.mark(0, false), true);
        wall.undo();
        check.due("gone back", wall.mark(0, true), true);
        check.due("to the later one", wall.state(0), 2);
        check.due("one that is laid at first", new TruceWall().mark(3, false), true);
    }

    private void counts() {
        check.sentence("Promise 21: What 0: columns, 1: how high, 2: stones, 3: 1 if it is SMALL, "
            + "4: ACTS that can be TAKEN BACK, 5: signs on the TAPE. NONE for another what");
        TruceWall wall = Check.told(FULL);
        wall.leave(3);
        wall.set(5, 0, 1);
        wall.feed(0x2020202000000000L, 0L, 0L);
        int[] due = {10, 6, 6, 0, 2, 4};
        for (int what = 0; what < due.length; what++) {
            check.due("count " + what, wall.count(what), due[what]);
        }
        check.due("no count 6", wall.count(6), -1);
        for (int wild : WILD) {
            check.due("no count " + wild, wall.count(wild), -1);
        }
    }

    private void allCalls() {
        check.sentence("An object is used for at most 512 calls after it has been made");
        TruceWall wall = new TruceWall();
        long[] parts = Check.packed("wall 2 1;stone a plain 1");
        for (int call = 0; call < 508; call += 4) {
            int text = call / 4;
            check.due("feed", wall.feed(parts[0], parts[1], parts[2]), 24);
            check.due("feed", wall.feed(0x3B00000000000000L, 0L, 0L), 25);
            check.due("truce", wall.truce(), 0);
            check.due("set", wall.set(0, text & 1, 1), 0);
        }
        check.due("call 509", wall.undo(), true);
        check.due("call 510", wall.days(), 2);
        check.due("call 511", wall.mark(0, false), true);
        check.due("call 512", wall.pays(), 1);
    }

    public static void main(String[] args) {
        AnswerEdgesTest test = new AnswerEdgesTest();
        test.newObject();
        test.feed();
        test.beyondThousand();
        test.stones();
        test.setLeaveAndFits();
        test.undo();
        test.columns();
        test.states();
        test.gatesThatMayBeLeft();
        test.acts();
        test.draws();
        test.lots();
        test.marks();
        test.marksThatAreNone();
        test.counts();
        test.allCalls();
        test.check.end();
    }
}
