/** Terms, part 1: a test for each sentence that names an edge of the TAPE or of a TRUCE's language. */
public final class LanguageEdgesTest {
    private static final String WALL = "wall 2 1;";
    private static final String[] KINDS = {"plain", "bridge", "round", "twin", "lent", "cut"};
    private static final String[] KEPT = {"wall", "stone", "gates", "fine", "plain", "bridge", "round", "twin", "lent",
        "cut", "wide", "level", "holes", "day", "not", "and", "or"};

    private final Check check = new Check("LanguageEdgesTest");

    private void good(String text) {
        check.due("fault of " + text, Check.tell(new TruceWall(), text), 0);
    }

    private void fault(int kind, int place, String text) {
        check.due("fault of " + text, Check.tell(new TruceWall(), text), kind + 16 * place);
    }

    /** What comes behind ahead, the faulty token first, has a FAULT at its first sign. */
    private void faultBehind(int kind, String ahead, String rest) {
        fault(kind, ahead.length(), ahead + rest);
    }

    private void bill(String fine, int due) {
        TruceWall wall = Check.told("wall 2 1;stone a plain 2;fine " + fine + ";");
        wall.set(0, 0, 2);
        check.due("bill of " + fine, wall.state(4), due);
    }

    private static TruceWall withBlanks(int many) {
        TruceWall wall = new TruceWall();
        for (int i = 0; i < many; i++) {
            wall.feed(32L, 0L, 0L);
        }
        return wall;
    }

    private void tapeIsFull() {
        check.sentence("The TAPE has at most 1,000 signs");
        // 984 blanks and nine signs more leave room for seven of the eight that follow.
        String filled = " ".repeat(984) + WALL;
        check.due("seven signs still come", Check.tell(new TruceWall(), filled + "gates0;;"), 0);
        check.due("the eighth does not", Check.tell(new TruceWall(), filled + "gates 0;"), 1 + 16 * 1000);
        TruceWall wall = withBlanks(999);
        check.due("999", wall.count(5), 999);
        check.due("the thousandth", wall.feed(32L, 0L, 0L), 1000);
        check.due("none behind it", wall.feed(32L, 32L, 32L), 1000);
        check.due("none behind it", wall.count(5), 1000);
    }

    private void whatIsASign() {
        check.sentence("10 and 32 .. 126");
        for (int sign = 0; sign <= 255; sign++) {
            int due = sign == 10 || sign >= 32 && sign <= 126 ? 1 : 0;
            check.due("as the highest of a: " + sign, new TruceWall().feed((long) sign << 56, 0L, 0L), due);
            check.due("as the lowest of b: " + sign, new TruceWall().feed(0L, sign, 0L), due);
            check.due("within c: " + sign, new TruceWall().feed(0L, 0L, (long) sign << 24), due);
        }
    }

    private void whatReadsItTakesIt() {
        check.sentence("what reads it takes it: it is empty then");
        TruceWall wall = new TruceWall();
        check.due("an empty one", wall.truce(), 1);
        check.due("still empty", wall.count(5), 0);
        check.due("one without a fault", Check.tell(wall, "wall 3 1;"), 0);
        check.due("is taken", wall.count(5), 0);
        check.due("and is not read again", wall.truce(), 1);
        check.due("one with a fault", Check.tell(wall, "wall 3 1;x"), 1 + 16 * 9);
        check.due("is taken", wall.count(5), 0);
        check.due("what is fed then begins anew", Check.tell(wall, "wall 4 1;"), 0);
        check.due("a full one", Check.tell(wall, "wall 5 1;" + " ".repeat(991)), 0);
        check.due("is taken", wall.count(5), 0);
        check.due("there is room again", wall.feed(32L, 32L, 32L), 3);
    }

    private void asLongAsCanBe() {
        check.sentence("TOKENS, each as long as can be");
        fault(1, 0, "walls 2 1;");
        fault(1, 0, "wallwall 2 1;");
        fault(4, 5, "wall 21;");
        fault(4, 5, "wall 101 1;");
        faultBehind(1, WALL, "gatesgat 1;");
        faultBehind(1, WALL + "fine ", "notday;");
        faultBehind(1, WALL + "fine 1 ", "orday;");
        good(WALL + "fine 1 or day;");
        good(WALL + "stone stones plain 1;stone stonesto plain 1;");
    }

    private void blanks() {
        check.sentence("blanks (10, 32) between where one likes");
        good("wall2 1;stone a plain1;gates1;fine not(1)and(2)or 3;");
        good(" \n wall\n\n2  1 \n;\n \nstone\na\nplain\n1\n;gates\n1\n; fine\n(\nday\n)\n*\n2\n; \n");
        fault(1, 0, "wa ll 2 1;");
        fault(4, 5, "wall 1 0 1;");
        // A tab and a carriage return are no signs: they never come onto the TAPE.
        good("wall\t2\r 1;");
        fault(1, 5, "wall\t2\r;");
    }

    private void wordsOfEight() {
        check.sentence("WORDS (letters a .. z, 8 at most)");
        good(WALL + "stone a plain 1;stone z plain 1;stone abcdefgh plain 1;stone zzzzzzzz plain 1;");
        faultBehind(1, WALL + "stone ", "abcdefghi plain 1;");
        faultBehind(1, WALL + "stone ", "z".repeat(900));
        for (String beside : new String[] {"`", "{", "@", "[", "A", "Z"}) {
            faultBehind(1, "wall", beside + "2 1;");
            faultBehind(1, WALL + "stone ", beside + " plain 1;");
            faultBehind(1, WALL + "stone a", beside + " plain 1;");
        }
    }

    private void numbersOfFour() {
        check.sentence("NUMBERS (1 to 4 digits; a letter may stand right behind)");
        bill("0", 0);
        bill("9", 9);
        bill("9999", 9999);
        bill("0009", 9);
        bill("0000", 0);
        bill("1and 1", 1);
        bill("9999or 0", 1);
        faultBehind(1, WALL + "fine ", "10000;");
        faultBehind(1, WALL + "fine ", "00000;");
        faultBehind(1, WALL + "fine ", "00001and 1;");
        faultBehind(1, WALL + "fine ", "9".repeat(900));
        faultBehind(1, WALL + "stone a plain 1", "x;");
        faultBehind(1, "wall ", "/2 1;");
        faultBehind(1, "wall 2", ":1;");
    }

    private void signsAndAllElse() {
        check.sentence("the signs ( ) < = + - * ;  All else ... is none");
        for (char sign = 33; sign <= 126; sign++) {
            boolean isLetter = sign >= 'a' && sign <= 'z';
            boolean isDigit = sign >= '0' && sign <= '9';
            if ("<=+-*".indexOf(sign) >= 0) {
                good(WALL + "fine 1" + sign + "1;");
            } else if (sign == ';') {
                faultBehind(1, WALL + "fine 1;", "1;");
            } else if (!isLetter && !isDigit) {
                faultBehind(1, WALL + "fine 1", sign + "1;");
            }
            if (!isLetter) {
                faultBehind(1, WALL, sign + ";");
            }
        }
        good(WALL + "fine (1);");
    }

    private void noneAtItsFirstSign() {
        check.sentence("(a longer WORD or NUMBER, too, at its first sign) is none");
        faultBehind(1, "", "wallwallw 2 1;");
        faultBehind(1, "  ", "wallwallw 2 1;");
        faultBehind(1, "wall ", "00002 1;");
        faultBehind(1, "wall 2 ", "10000;");
        faultBehind(1, WALL, "stonestone a plain 1;");
        faultBehind(1, WALL + "stone a ", "plainplai 1;");
        faultBehind(1, WALL + "stone a plain ", "00001;");
        faultBehind(1, WALL + "fine 1+", "levelleve;");
        faultBehind(1, WALL + "fine 1+", "12345;");
    }

    private void wallFirst() {
        check.sentence("wall W H ;   first ... (another line than wall first, wall again)");
        fault(1, 0, "");
        fault(1, 0, "stone a plain 1;" + WALL);
        fault(1, 0, "gates 1;" + WALL);
        fault(1, 0, "fine 1;" + WALL);
        fault(1, 0, ";" + WALL);
        faultBehind(1, WALL, WALL);
        faultBehind(1, WALL + "stone a plain 1;", WALL);
        faultBehind(1, WALL + "gates 1;fine 1;", "wall");
    }

    private void sizes() {
        check.sentence("W 2 to 10 columns, H 1 to 6 high");
        for (int w = 0; w <= 12; w++) {
            for (int h = 0; h <= 8; h++) {
                String ahead = w < 2 || w > 10 ? "wall " : "wall " + w + " ";
                boolean told = w >= 2 && w <= 10 && h >= 1 && h <= 6;
                int due = told ? 0 : 4 + 16 * ahead.length();
                TruceWall wall = new TruceWall();
                check.due("wall " + w + " " + h, Check.tell(wall, "wall " + w + " " + h + ";"), due);
                check.due("columns of " + w + " " + h, wall.count(0), told ? w : 2);
                check.due("high of " + w + " " + h, wall.count(1), told ? h : 1);
            }
        }
        fault(4, 5, "wall 9999 9999;");
        fault(4, 7, "wall 2 9999;");
    }

    private void anyNumberOfLines() {
        check.sentence("then any number of   stone NAME KIND N ;   gates N ;   fine E ;");
        good(WALL);
        good(WALL + "fine 1;gates 0;stone a plain 1;");
        good(WALL + "stone a plain 1;fine 1;stone b plain 1;gates 1;stone c plain 1;");
        String[] lines = {"stone a plain 1;", "gates 1;", "fine 1+(2);"};
        for (String line : lines) {
            for (int cut = 1; cut < line.length(); cut++) {
                boolean within = Character.isLetter(line.charAt(cut - 1)) && Character.isLetter(line.charAt(cut));
                // A word that is cut short is another one, and can't stand where it was due.
                int place = within ? line.lastIndexOf(' ', cut - 1) + 1 : cut;
                fault(1, WALL.length() + place, WALL + line.substring(0, cut));
            }
        }
    }

    private static String stones(int many) {
        StringBuilder text = new StringBuilder(WALL);
        for (int i = 0; i < many; i++) {
            text.append("stone ").append((char) ('a' + i)).append(' ').append(KINDS[5 - i]).append(i == 4 ? " 2;" : " 1;");
        }
        return text.toString();
    }

    private void sixStones() {
        check.sentence("stone: 6 at most, numbered as told");
        for (int many = 0; many <= 6; many++) {
            TruceWall wall = Check.told(stones(many));
            check.due("stones", wall.count(2), many);
            for (int i = 0; i < many; i++) {
                check.due("kind of " + i + " of " + many, wall.stone(i, 0), 5 - i);
            }
            check.due("none behind the last", wall.stone(many, 0), -1);
        }
        check.sentence("5 one too many: the word stone of a seventh");
        faultBehind(5, stones(6), "stone g plain 1;");
        faultBehind(5, stones(6), "stone a plain 1;");
        faultBehind(5, stones(6), "stone");
        faultBehind(5, stones(6) + "gates 1;fine 1;", "stone 5 ~");
        faultBehind(1, stones(6), "stones");
    }

    private void kindsAndWidths() {
        check.sentence("KIND: plain, bridge, round, twin, lent, cut; N is how wide, 1 to 4 (bridge 2 to 4; round, twin 1)");
        int[] least = {1, 2, 1, 1, 1, 1};
        int[] most = {4, 4, 1, 1, 4, 4};
        for (int kind = 0; kind < 6; kind++) {
            for (int n : new int[] {0, 1, 2, 3, 4, 5, 10, 9999}) {
                String ahead = WALL + "stone a " + KINDS[kind] + " ";
                TruceWall wall = new TruceWall();
                boolean told = n >= least[kind] && n <= most[kind];
                check.due(KINDS[kind] + " " + n, Check.tell(wall, ahead + n + ";"), told ? 0 : 4 + 16 * ahead.length());
                check.due("its kind", wall.stone(0, 0), told ? kind : -1);
                check.due("its width", wall.stone(0, 1), told ? n : -1);
            }
        }
        for (String other : new String[] {"a", "plai", "plains", "wide", "wall", "1", ";"}) {
            faultBehind(1, WALL + "stone a ", other + " 1;");
        }
    }

    private void gatesLine() {
        check.sentence("gates: 0 or 1 for each town (0 without)");
        for (int n = 0; n <= 1; n++) {
            TruceWall wall = Check.told(WALL + "gates " + n + ";");
            check.due("town 0's", wall.state(7), n);
            check.due("town 1's", wall.state(8), n);
        }
        TruceWall without = Check.told(WALL);
        check.due("town 0's without", without.state(7), 0);
        check.due("town 1's without", without.state(8), 0);
        faultBehind(4, WALL + "gates ", "2;");
        faultBehind(4, WALL + "gates ", "9999;");
        faultBehind(1, WALL + "gates ", "-1;");
        faultBehind(1, WALL + "gates ", ";");
    }

    private void onceEach() {
        check.sentence("fine: once each ... the words gates, fine a second time");
        faultBehind(3, WALL + "gates 1;", "gates 1;");
        faultBehind(3, WALL + "gates 0;", "gates 0;");
        faultBehind(3, WALL + "gates 0;", "gates");
        faultBehind(3, WALL + "gates 0;", "gates 2 ~");
        faultBehind(3, WALL + "gates 0;stone a plain 1;fine 1;", "gates 0;");
        faultBehind(3, WALL + "fine 1;", "fine 1;");
        faultBehind(3, WALL + "fine 0;gates 1;", "fine");
        // Where another token is due they can't stand at all, and that is the least.
        faultBehind(1, WALL + "gates ", "gates 1;");
        faultBehind(1, WALL + "gates 1;stone ", "gates plain 1;");
        faultBehind(1, WALL + "fine ", "fine 1;");
        faultBehind(1, WALL + "fine 1 ", "fine 1;");
        // A TRUCE that is told anew may tell them anew.
        TruceWall wall = Check.told(WALL + "gates 1;fine 1;");
        check.due("told again", Check.tell(wall, WALL + "gates 1;fine 1;"), 0);
        check.due("told with a fault", Check.tell(wall, WALL + "gates 1;fine"), 1 + 16 * 21);
        check.due("told behind a fault", Check.tell(wall, WALL + "gates 1;fine 1;"), 0);
    }

    private void names() {
        check.sentence("A NAME is another WORD than wall, stone, gates, fine, the KINDS, wide, level, holes, day, not, and, or");
        for (String kept : KEPT) {
            faultBehind(1, WALL + "stone ", kept + " plain 1;");
            good(WALL + "stone " + kept + "s plain 1;");
            good(WALL + "stone x" + kept + " plain 1;");
            good(WALL + "stone " + kept.substring(1) + " plain 1;");
            good(WALL + "stone " + kept.substring(0, kept.length() - 1) + " plain 1;");
            good(WALL + "stone " + kept.substring(0, kept.length() - 1) + "x plain 1;");
        }
        for (String none : new String[] {"1", "(", ";", "~", "A"}) {
            faultBehind(1, WALL + "stone ", none + " plain 1;");
        }
    }

    private void noTwoAlike() {
        check.sentence("no two are alike ... 3 a NAME told already");
        good(WALL + "stone a plain 1;stone aa plain 1;stone aaa plain 1;stone b plain 1;stone ab plain 1;stone ba plain 1;");
        good(WALL + "stone aaaaaaaa plain 1;stone aaaaaaab plain 1;stone baaaaaaa plain 1;stone aaaaaaa plain 1;");
        for (int first = 0; first < 5; first++) {
            String again = (char) ('a' + first) + "";
            faultBehind(3, stones(5) + "stone ", again + " plain 1;");
            faultBehind(3, stones(5) + "stone ", again);
        }
        faultBehind(3, WALL + "stone abcdefgh plain 1;stone ", "abcdefgh plain 1;");
        // A NAME that was told in a TRUCE with a FAULT, or in an older one, is free.
        TruceWall wall = Check.told(WALL + "stone a plain 1;stone b plain 1;");
        check.due("a fault", Check.tell(wall, WALL + "stone c plain 1;stone d plain 9;"), 4 + 16 * 39);
        check.due("names anew", Check.tell(wall, WALL + "stone d plain 1;stone c plain 1;stone b plain 1;stone a plain 1;"), 0);
    }

    private void fromTheLeft() {
        check.sentence("E: TEST { and TEST or or TEST }, from the left; TEST: SUM, or SUM < SUM, or SUM = SUM");
        bill("1 or 0 and 0", 0);
        bill("1 or (0 and 0)", 1);
        bill("0 and 0 or 1", 1);
        bill("0 and (0 or 1)", 0);
        bill("7-4-2", 1);
        bill("7-(4-2)", 5);
        bill("2+3*4", 14);
        bill("(2+3)*4", 20);
        bill("1+1<2*2", 1);
        bill("2=1+1 and 3=3", 1);
        bill("not 1=0", 1);
        bill("not (1=0)", 1);
        bill("not 0+1", 2);
        faultBehind(1, WALL + "fine 1<2", "<3;");
        faultBehind(1, WALL + "fine 1=2", "=3;");
        faultBehind(1, WALL + "fine 1<2", "=3;");
        good(WALL + "fine 1<2 and 2=3 or 3<4;");
        for (String join : new String[] {"+", "-", "*", "<", "=", " and ", " or "}) {
            faultBehind(1, WALL + "fine ", join.trim() + " 1;");
            faultBehind(1, WALL + "fine 1" + join, ";");
            faultBehind(1, WALL + "fine 1" + join, ")");
            faultBehind(1, WALL + "fine (1" + join, ")");
            faultBehind(1, WALL + "fine 1" + join, join.trim() + " 1;");
        }
        faultBehind(1, WALL + "fine (", ");");
        faultBehind(1, WALL + "fine (1", ";");
        faultBehind(1, WALL + "fine 1", ");");
        faultBehind(1, WALL + "fine (1)", "(1);");
        faultBehind(1, WALL + "fine 1 ", "1;");
        faultBehind(1, WALL + "fine 1 ", "not 1;");
        faultBehind(1, WALL + "stone a plain 1;fine ", "a;");
    }

    /** Every row of not and ( as long as told; bit i of the mask tells which stands at i. */
    private static String opened(int mask, int deep) {
        StringBuilder text = new StringBuilder();
        for (int i = 0; i < deep; i++) {
            text.append((mask >> i & 1) == 0 ? "not " : "(");
        }
        return text.toString();
    }

    private void withinFive() {
        check.sentence("no PART lies within 5 of not and ( ) ... not, or a PART, within 5 others");
        for (int deep = 0; deep <= 4; deep++) {
            for (int mask = 0; mask < 1 << deep; mask++) {
                good(WALL + "fine " + opened(mask, deep) + "1" + ")".repeat(Integer.bitCount(mask)) + ";");
            }
        }
        String[] parts = {"1", "9999", "wide", "level", "holes", "day", "not 1", "(1)", "not ~", "("};
        String[] noParts = {";", ")", "+", "a", "and", "or", "wall", "~", "12345", "abcdefghi", ""};
        for (int mask = 0; mask < 32; mask++) {
            String ahead = WALL + "fine " + opened(mask, 5);
            for (String part : parts) {
                faultBehind(5, ahead, part);
            }
            for (String noPart : noParts) {
                faultBehind(1, ahead, noPart);
            }
        }
        // What is shut again holds nothing: only what lies around a PART counts.
        good(WALL + "fine ((((1))))+((((2))))*not not not not 3 and not(not(1)+not(2));");
        good(WALL + "fine not 1+not 1+not 1+not 1+not 1+not 1+not 1;");
        faultBehind(5, WALL + "fine ((((1))))+((((2+not ", "3))));");
    }

    private void facts() {
        check.sentence("wide (columns it lies on; twin: 2), level (the HEIGHT of its first column ahead, "
            + "of the one it is set from), holes (that it makes), day (the DAY, from 0)");
        TruceWall wall = Check.told("wall 5 6;stone p plain 1;stone t twin 1;stone c cut 4;stone b bridge 4;stone r round 1;"
            + "fine wide*1000+level*100+holes*10+day;");
        int[][] acts = {{0, 0, 1, 1000}, {0, 3, 1, 1001}, {3, 0, 4, 4122}, {1, 4, 1, 2003}, {1, 0, 1, 2304}, {2, 1, 3, 3205},
            {2, 1, 3, 3306}, {4, 4, 1, 1207}, {2, 0, 4, 4408}};
        int due = 0;
        for (int[] act : acts) {
            check.due("set of " + act[0] + " at " + act[1], wall.set(act[0], act[1], act[2]), 0);
            due += act[3];
            check.due("bill behind " + act[0] + " at " + act[1], wall.state(4), due);
        }
    }

    private void oneOrZero() {
        check.sentence("Of not, and, or, < and = comes 1 or 0; what is not 0 is so");
        bill("not 0", 1);
        bill("not 1", 0);
        bill("not 9", 0);
        bill("not (0-1)", 0);
        bill("5 and 7", 1);
        bill("(0-5) and 7", 1);
        bill("5 and 0", 0);
        bill("0 and 5", 0);
        bill("0 or 5", 1);
        bill("5 or 0", 1);
        bill("(0-5) or 0", 1);
        bill("0 or 0", 0);
        bill("4 and 2", 1);
        bill("4<5", 1);
        bill("5<5", 0);
        bill("6<5", 0);
        bill("0-1<0", 1);
        bill("5=5", 1);
        bill("5=6", 0);
        bill("0=0-0", 1);
    }

    private void intsWrap() {
        check.sentence("ints wrap");
        // 2 to the power of 31 is 4096 * 4096 * 128.
        String wrapped = "4096*4096*128";
        bill(wrapped, Integer.MIN_VALUE);
        bill(wrapped + "-1", Integer.MAX_VALUE);
        bill("0-" + wrapped, Integer.MIN_VALUE);
        bill(wrapped + "*2", 0);
        bill("not (" + wrapped + "*2)", 1);
        bill(wrapped + "<0", 1);
        bill("0<" + wrapped + "-1", 1);
        bill(wrapped + "-1+1=" + wrapped, 1);
        bill("9999*9999*9999", 9999 * 9999 * 9999);
        TruceWall wall = Check.told("wall 3 1;stone a plain 1;fine " + wrapped + "-1;");
        int due = 0;
        for (int c = 0; c < 3; c++) {
            wall.set(0, c, 1);
            due += Integer.MAX_VALUE;
            check.due("the bill wraps", wall.state(4), due);
        }
        wall.undo();
        check.due("and back", wall.state(4), -2);
    }

    private void withoutALine() {
        check.sentence("Without a line it is wide");
        TruceWall wall = Check.told("wall 4 6;stone p plain 3;stone t twin 1;stone c cut 4;gates 1;");
        int[][] acts = {{0, 1, 3, 3}, {1, 0, 1, 5}, {2, 1, 2, 7}, {2, 1, 1, 8}};
        for (int[] act : acts) {
            check.due("set", wall.set(act[0], act[1], act[2]), 0);
            check.due("bill", wall.state(4), act[3]);
        }
        wall = Check.told("wall 4 6;stone p plain 3;fine 0;");
        wall.set(0, 0, 3);
        check.due("with a line", wall.state(4), 0);
        Check.tell(wall, "wall 4 6;stone p plain 3;");
        wall.set(0, 0, 3);
        check.due("an older line is gone", wall.state(4), 3);
    }

    private void theEnd() {
        check.sentence("the end being one at the text's length");
        String[] cutOff = {"", "wall", "wall 2", "wall 2 1", WALL + "stone", WALL + "stone a", WALL + "stone a plain",
            WALL + "stone a plain 1", WALL + "gates", WALL + "gates 1", WALL + "fine", WALL + "fine 1", WALL + "fine (",
            WALL + "fine not", WALL + "fine 1+", WALL + "fine (1", WALL + "fine 1<"};
        for (String text : cutOff) {
            fault(1, text.length(), text);
            fault(1, text.length() + 1, text + "\n");
            fault(1, text.length() + 3, text + " \n ");
        }
        fault(1, 1000, " ".repeat(1000));
        fault(1, 1000, WALL + "fine" + " ".repeat(987));
        good(WALL + " ".repeat(991));
        good(" ".repeat(991) + WALL);
        fault(1, 1000, " ".repeat(996) + "wall");
        fault(1, 1000, WALL + " ".repeat(982) + "fine 9999");
        fault(1, 995, WALL + " ".repeat(981) + "fine 12345");
        fault(1, 991, WALL + " ".repeat(982) + "finefines");
    }

    private void nothingOlder() {
        check.sentence("what reads it takes it ... the end being one at the text's length");
        TruceWall wall = new TruceWall();
        check.due("a long word", Check.tell(wall, "wallwall"), 1);
        check.due("a shorter one", Check.tell(wall, "wall"), 1 + 16 * 4);
        check.due("a long number", Check.tell(wall, "wall 2 1111"), 4 + 16 * 7);
        check.due("a shorter one", Check.tell(wall, "wall 2 1"), 1 + 16 * 8);
        check.due("a whole truce", Check.tell(wall, WALL + "gates 1;"), 0);
        check.due("a piece of it", Check.tell(wall, "wall 2 1"), 1 + 16 * 8);
        check.due("less of it", Check.tell(wall, WALL + "gate"), 1 + 16 * 9);
        check.due("less of it", Check.tell(wall, WALL + "gates"), 1 + 16 * 14);
    }

    private void longFines() {
        check.sentence("fine E ; ... The TAPE has at most 1,000 signs");
        // The text has all 1,000 signs.
        String ahead = "wall 2 1;stone a plain 2;fine 1";
        for (String step : new String[] {"+1", "*1", "-1"}) {
            TruceWall wall = new TruceWall();
            int steps = (999 - ahead.length()) / 2;
            String text = ahead + step.repeat(steps) + ";";
            check.due("signs", text.length(), 1000);
            int due = step.equals("+1") ? 1 + steps : step.equals("*1") ? 1 : 1 - steps;
            for (int i = 0; i < 4; i++) {
                check.due("told " + i, Check.tell(wall, text), 0);
                check.due("set " + i, wall.set(0, 0, 2), 0);
                check.due("bill " + i, wall.state(4), due);
            }
            check.due("told shorter", Check.tell(wall, ahead + ";"), 0);
            check.due("set", wall.set(0, 0, 2), 0);
            check.due("bill", wall.state(4), 1);
        }
        // All that can wait at once: a left side for each join in each of five E, one within the other.
        String deep = "0 or 1<2+3*(0 or 1<2+3*(0 or 1<2+3*(0 or 1<2+3*(0 or 1<2+3*4))))";
        bill(deep, 1);
    }

    private void firstFromTheLeft() {
        check.sentence("of the first token from the left that is wrong the least");
        fault(4, 5, "wall 1 9 ~ gates gates");
        fault(4, 7, "wall 2 9 ~");
        faultBehind(1, WALL, "~wall 1;");
        faultBehind(3, WALL + "stone a plain 1;stone ", "a plain 9;");
        faultBehind(4, WALL + "stone a plain ", "9 stone a");
        faultBehind(5, stones(6), "stone ~");
        faultBehind(4, WALL + "gates 1;stone a plain ", "5;gates 1;");
        // A NUMBER that is too great where none can stand is wrong by where it stands.
        faultBehind(1, WALL + "gates 1 ", "9;");
        faultBehind(1, WALL + "stone a ", "9;");
        faultBehind(1, WALL, "9999;");
    }

    private void withoutAFault() {
        check.sentence("Without a FAULT it is the TRUCE from then on: nothing is built, DAY 0, town 0 is on turn; MARKS stay");
        TruceWall fresh = Check.told("wall 3 2;stone b bridge 3;stone p plain 1;gates 1;fine 3;");
        TruceWall wall = Check.told("wall 4 3;stone b bridge 3;stone p plain 1;gates 1;fine 3;");
        wall.set(1, 0, 1);
        wall.set(1, 2, 1);
        wall.set(0, 0, 3);
        wall.leave(3);
        wall.set(1, 0, 1);
        wall.mark(0, false);
        check.due("told", Check.tell(wall, "wall 3 2;stone b bridge 3;stone p plain 1;gates 1;fine 3;"), 0);
        check.due("as a new one", Check.snapshot(wall).equals(Check.snapshot(fresh)), true);
        check.due("the mark stays", wall.mark(0, true), true);
        check.due("what was done comes back", wall.state(0), 5);
        check.due("no other mark is there", wall.mark(1, true), false);
    }

    private void withAFault() {
        check.sentence("Promise 3: The TAPE is read as a TRUCE: 0, or its FAULT (all stays then)");
        TruceWall wall = Check.told("wall 4 3;stone b bridge 3;stone p plain 1;gates 1;fine 3;");
        wall.set(1, 0, 1);
        wall.set(1, 2, 1);
        wall.set(0, 0, 3);
        wall.leave(3);
        wall.mark(2, false);
        String before = Check.snapshot(wall);
        String[] wrong = {"", "x", "wall 2 1", "wall 2 1;stone z cut 4;gates 0;fine 9", "wall 2 1;stone z cut 4;gates 0;fine 9;~",
            stones(6) + "stone", "wall 11 1;", "wall 2 1;gates 0;gates 0;"};
        for (String text : wrong) {
            check.due("a fault in " + text, Check.tell(wall, text) != 0, true);
            check.due("all stays behind " + text, Check.snapshot(wall).equals(before), true);
        }
        wall.undo();
        check.due("the mark stays", wall.mark(2, true), true);
        check.due("all of it", Check.snapshot(wall).equals(before), true);
        wall.undo();
        check.due("set goes on by the old fine", wall.set(1, 3, 1), 0);
        check.due("bill", wall.state(4), 12);
    }

    private void atFirst() {
        check.sentence("At first: wall 2 1, no stone");
        String bare = Check.snapshot(new TruceWall());
        check.due("as if told", bare.equals(Check.snapshot(Check.told(WALL))), true);
        check.due("as if told so", bare.equals(Check.snapshot(Check.told(WALL + "gates 0;fine wide;"))), true);
    }

    public static void main(String[] args) {
        LanguageEdgesTest test = new LanguageEdgesTest();
        test.tapeIsFull();
        test.whatIsASign();
        test.whatReadsItTakesIt();
        test.asLongAsCanBe();
        test.blanks();
        test.wordsOfEight();
        test.numbersOfFour();
        test.signsAndAllElse();
        test.noneAtItsFirstSign();
        test.wallFirst();
        test.sizes();
        test.anyNumberOfLines();
        test.sixStones();
        test.kindsAndWidths();
        test.gatesLine();
        test.onceEach();
        test.names();
        test.noTwoAlike();
        test.fromTheLeft();
        test.withinFive();
        test.facts();
        test.oneOrZero();
        test.intsWrap();
        test.withoutALine();
        test.theEnd();
        test.nothingOlder();
        test.longFines();
        test.firstFromTheLeft();
        test.withoutAFault();
        test.withAFault();
        test.atFirst();
        test.check.end();
    }
}
