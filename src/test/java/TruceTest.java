/** Promises 3 (truce) and 4 (stone), and E as BILL tells it. */
public final class TruceTest {
    private final Check check;

    private TruceTest(Check check) {
        this.check = check;
    }

    /** The sign ^ in the text, which is taken out, tells the place of the FAULT. */
    private void fault(int kind, String text) {
        int place = text.indexOf('^');
        String plain = text.substring(0, place) + text.substring(place + 1);
        TruceWall wall = Check.told("wall 3 4;stone s lent 2;gates 1;");
        wall.set(0, 1, 2);
        check.due("fault of " + text, Check.tell(wall, plain), kind + 16 * place);
        boolean stays = wall.count(0) == 3 && wall.count(1) == 4 && wall.stone(0, 0) == 4
            && wall.column(1, 0) == 1 && wall.state(0) == 1 && wall.state(7) == 1 && wall.count(4) == 1;
        check.due("all stays behind " + text, stays, true);
        check.due("the tape is taken behind " + text, wall.count(5), 0);
    }

    private void good(String text) {
        check.due("fault of " + text, Check.tell(new TruceWall(), text), 0);
    }

    private void firstLine() {
        fault(1, "^");
        fault(1, "  \n ^");
        fault(1, "^stone a plain 1;");
        fault(1, "^gates 1;");
        fault(1, "^a");
        fault(1, "^7");
        fault(1, "^walls 2 1;");
        fault(1, "wall^");
        fault(1, "^call 2 1;");
        fault(1, "wall 2 ^;");
        fault(1, "wall ^a 1;");
        fault(1, "wall ^;");
        fault(4, "wall ^1 1;");
        fault(4, "wall ^0 9;");
        fault(4, "wall ^11 1;");
        fault(4, "wall ^9999 1;");
        fault(1, "wall ^10000 1;");
        fault(4, "wall 2 ^0;");
        fault(4, "wall 10 ^7;");
        fault(1, "wall 2 1^");
        fault(1, "wall 2 1 ^2;");
        fault(1, "wall 2 1;^wall 2 1;");
        fault(1, "wall 2 1;^;");
        fault(1, "wall 2 1;^plain");
        fault(1, "wall 2 1; ^A");
        fault(1, "^W");
        fault(1, "^{");
        good("wall 2 1;");
        good("wall 10 6;");
        good("\n wall\n0002 006 ;\n");
        good("wall2 1;gates1;fine 1and 2or 3;");
    }

    private void stoneLines() {
        String w = "wall 2 1;";
        fault(1, w + "stone^");
        fault(1, w + "stone ^3 plain 1;");
        for (String kept : Reference.KEPT) {
            fault(1, w + "stone ^" + kept + " plain 1;");
        }
        good(w + "stone call plain 1;stone ant plain 1;stone ox cut 1;");
        good(w + "stone walls plain 1;stone a plain 2;stone plai plain 3;stone o plain 4;stone ors cut 4;");
        good(w + "stone abcdefgh plain 1;stone abcdefg plain 1;stone bridges bridge 2;");
        fault(1, w + "stone ^abcdefghi plain 1;");
        fault(1, w + "stone ^Abc plain 1;");
        fault(1, w + "stone a^B plain 1;");
        fault(1, w + "stone a ^a 1;");
        fault(1, w + "stone a ^wall 1;");
        fault(1, w + "stone a ^1;");
        fault(1, w + "stone a ^wide 1;");
        fault(1, w + "stone a plain ^;");
        fault(1, w + "stone a plain 1 ^gates 1;");
        fault(3, w + "stone ab plain 1;stone b plain 1;stone ^ab what");
        fault(4, w + "stone a plain ^0;");
        fault(4, w + "stone a plain ^5;");
        fault(4, w + "stone a lent ^5;");
        fault(4, w + "stone a cut ^0;");
        fault(4, w + "stone a cut ^5;");
        fault(4, w + "stone a bridge ^1;");
        fault(4, w + "stone a bridge ^5;");
        fault(4, w + "stone a round ^2;");
        fault(4, w + "stone a round ^0;");
        fault(4, w + "stone a twin ^2;");
        fault(1, w + "stone a twin ^00001;");
        String six = w + "stone a plain 1;stone b plain 1;stone c plain 1;stone d plain 1;stone e plain 1;"
            + "stone f plain 1;";
        good(six + "gates 0;fine 1;");
        fault(5, six + "^stone");
        fault(5, six + "gates 1;^stone a plain 1;");
        fault(3, w + "gates 1;^gates 1;");
        fault(3, w + "gates 0;fine 1;^gates 0;");
        fault(3, w + "fine 1;stone a cut 1;^fine 2;");
        fault(4, w + "gates ^2;");
        fault(1, w + "gates ^;");
        fault(1, w + "gates 1^");
    }

    private void fines() {
        String f = "wall 2 1;fine ";
        fault(1, f + "^;");
        fault(1, f + "^");
        fault(1, f + "^-1;");
        fault(1, f + "1 ^1;");
        fault(1, f + "1 ^not 1;");
        fault(1, f + "1+^;");
        fault(1, f + "1+^+1;");
        fault(1, f + "1<2^<3;");
        fault(1, f + "1<2^=3;");
        fault(1, f + "1=2^<3;");
        fault(1, f + "(1^;");
        fault(1, f + "1^);");
        fault(1, f + "(^);");
        fault(1, f + "1 and^;");
        fault(1, f + "^a;");
        fault(1, f + "^stone;");
        fault(1, f + "wide^!;");
        fault(1, f + "^12345;");
        fault(1, f + "not ^and 1;");
        fault(1, f + "(^abcdefghi 1);");
        fault(1, f + "(^12345 1);");
        good(f + "(1<2)<3;");
        good(f + "1<2 and 2<3 or not 3=4;");
        good(f + "((((1))));");
        fault(5, f + "(((((^1)))));");
        fault(5, f + "(((((^(1))))));");
        fault(5, f + "(((((^not 1)))));");
        fault(1, f + "(((((^)");
        fault(1, f + "(((((^");
        good(f + "not not not not 1;");
        fault(5, f + "not not not not not ^1;");
        fault(5, f + "not not not not not ^not 1;");
        fault(1, f + "not not not not not ^;");
        fault(5, f + "not (not (not ^day));");
        good(f + "not (not (1)+1);");
        good(f + "(1)*(2)*(3)*(4)*(5)*(6)+(7);");
        good(f + "not 1+not 1+not 1+not 1+not 1+not 1;");
    }

    private void bill(String fine, int due) {
        TruceWall wall = Check.told("wall 2 1;stone a plain 2;fine " + fine + ";");
        wall.set(0, 0, 2);
        check.due("bill of " + fine, wall.state(4), due);
    }

    private void reckoning() {
        bill("1+2*3", 7);
        bill("2*3+1", 7);
        bill("10-2-3", 5);
        bill("1-2", -1);
        bill("2*(3+4)*2", 28);
        bill("1 or 0 and 0", 0);
        bill("0 and 0 or 7", 1);
        bill("2 and 4", 1);
        bill("1 and 1", 1);
        bill("0 and 1", 0);
        bill("1 and 0", 0);
        bill("1 or 1", 1);
        bill("0 or 1", 1);
        bill("1=2", 0);
        bill("3<2", 0);
        bill("0 or 0", 0);
        bill("not 0*5", 5);
        bill("not 3", 0);
        bill("not not 3", 1);
        bill("not (1-1)", 1);
        bill("1<2", 1);
        bill("2<2", 0);
        bill("0-1<0", 1);
        bill("1+1=2", 1);
        bill("1=2 or 3", 1);
        bill("(1<2)+(2<3)+(3=3)", 3);
        bill("9999*9999*9999", 9999 * 9999 * 9999);
        bill("9999*9999*9999-9999*9999*9999*3", 9999 * 9999 * 9999 - 9999 * 9999 * 9999 * 3);
        bill("0000", 0);
        bill("wide*1000+level*100+holes*10+day", 2000);
        StringBuilder many = new StringBuilder("1");
        for (int i = 0; i < 470; i++) {
            many.append("+1");
        }
        bill(many.toString(), 471);
        String deep = "1 or 1<1+1*(1 or 1<1+1*(1 or 1<1+1*(1 or 1<1+1*(1 or 1<1+1*1))))";
        bill(deep, 1);
        bill("3*" + "(2+1*(2+1*(2+1*(2+1*5))))", 39);
    }

    private void facts() {
        TruceWall wall = Check.told("wall 4 6;stone p plain 2;stone b bridge 4;stone t twin 1;stone c cut 3;"
            + "stone r round 1;fine wide*1000+level*100+holes*10+day;");
        int due = 0;
        int[][] acts = {{0, 0, 2, 2000}, {0, 2, 2, 2001}, {2, 3, 1, 2102}, {2, 0, 1, 2203}, {1, 0, 4, 4344},
            {3, 1, 3, 3405}, {4, 0, 1, 1406}};
        for (int[] act : acts) {
            check.due("set", wall.set(act[0], act[1], act[2]), 0);
            due += act[3];
            check.due("bill", wall.state(4), due);
        }
        // A twin's level is that of the column it is set from, whichever of the two that is.
        wall = Check.told("wall 3 3;stone p plain 1;stone t twin 1;fine level;");
        wall.set(0, 2, 1);
        wall.set(1, 0, 1);
        check.due("level of the low one", wall.state(4), 0);
        wall.undo();
        wall.set(1, 2, 1);
        check.due("level of the high one", wall.state(4), 1);
        wall = Check.told("wall 3 3;stone p plain 1;stone t twin 1;stone k cut 3;gates 1;");
        wall.set(0, 1, 1);
        wall.set(1, 0, 1);
        wall.leave(1);
        wall.set(2, 0, 3);
        check.due("without a line it is wide", wall.state(4), 1 + 2 + 3);
    }

    private void stones() {
        TruceWall wall = Check.told("wall 2 1;stone a plain 4;stone b bridge 3;stone c round 1;stone d twin 1;"
            + "stone e lent 2;stone f cut 4;");
        int[] wides = {4, 3, 1, 1, 2, 4};
        for (int i = 0; i < 6; i++) {
            check.due("kind " + i, wall.stone(i, 0), i);
            check.due("wide " + i, wall.stone(i, 1), wides[i]);
            check.due("nothing else", wall.stone(i, 2), -1);
            check.due("nothing else", wall.stone(i, -1), -1);
        }
        check.due("no stone 6", wall.stone(6, 0), -1);
        check.due("no stone -1", wall.stone(-1, 1), -1);
        check.due("no stone", wall.stone(Integer.MAX_VALUE, 0), -1);
        check.due("stones", wall.count(2), 6);
        check.due("another truce", Check.tell(wall, "wall 3 1;stone z cut 1;"), 0);
        check.due("its stones", wall.count(2), 1);
        check.due("no stone 1 now", wall.stone(1, 0), -1);
        check.due("none that fits", wall.fits(1, 0, 3), 1);
    }

    private void forgotten() {
        TruceWall wall = Check.told("wall 2 1;stone a plain 2;gates 1;fine 7;");
        check.due("told again", Check.tell(wall, "wall 2 1;stone a plain 2;gates 0;fine 5;"), 0);
        wall.set(0, 0, 2);
        check.due("the fine is the new one", wall.state(4), 5);
        check.due("told with a fault", Check.tell(wall, "wall 2 1;gates 1;fine 9"), 1 + 16 * 23);
        check.due("told without", Check.tell(wall, "wall 2 1;stone a plain 2;"), 0);
        check.due("no gates", wall.state(7), 0);
        wall.set(0, 0, 2);
        check.due("it is wide", wall.state(4), 2);
    }

    private void small() {
        int[][] sizes = {{2, 6, 1}, {3, 5, 1}, {3, 6, 0}, {4, 3, 1}, {4, 4, 0}, {5, 2, 1}, {5, 3, 0}, {6, 1, 0},
            {8, 1, 0}, {10, 6, 0}, {2, 1, 1}};
        for (int[] size : sizes) {
            TruceWall wall = Check.told("wall " + size[0] + " " + size[1] + ";");
            check.due("small " + size[0] + " " + size[1], wall.count(3), size[2]);
            check.due("columns", wall.count(0), size[0]);
            check.due("high", wall.count(1), size[1]);
        }
    }

    public static void main(String[] args) {
        Check check = new Check("TruceTest");
        TruceTest test = new TruceTest(check);
        test.firstLine();
        test.stoneLines();
        test.fines();
        test.reckoning();
        test.facts();
        test.stones();
        test.small();
        test.forgotten();
        check.end();
    }
}
