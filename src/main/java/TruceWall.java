import java.util.NoSuchElementException;

/**
 * A wall that two enemies build in turn, a stone a day, under a truce. The document (DOC.md) says
 * what each call answers; words in capitals here are the document's terms.
 */
public final class TruceWall {
    public static final int NONE = -1;

    private static final int TAPE_LIMIT = 1000;
    private static final int COLUMN_LIMIT = 10;
    private static final int STONE_LIMIT = 6;
    // No play is longer: each ACT fills at least one of the wall's 10 * 6 places.
    private static final int ACT_LIMIT = 60;
    private static final int MARK_LIMIT = 4;
    private static final int DAY_LIMIT = 30;
    // The most unlike walls that a SMALL one numbers: (H + 3) to the power of W, at W 5 and H 2.
    private static final int SMALL_WALLS = 3125;
    private static final int NO_RULE = -1;

    private static final int PLAIN = 0;
    private static final int BRIDGE = 1;
    private static final int ROUND = 2;
    private static final int TWIN = 3;
    private static final int LENT = 4;
    private static final int CUT = 5;

    private final char[] tape = new char[TAPE_LIMIT];
    private int signs = 0;
    private final Reader reader = new Reader();
    private Truce truce;
    private final Site site = new Site();
    private final Mark[] marks = new Mark[MARK_LIMIT];
    private final Play bestPlay = new Play();
    private final Play masonPlay = new Play();
    private final Ways ways = new Ways();
    // The ACTS that can be done now, in order; how many: none exactly if it is OVER.
    private final int[] doable = new int[Acts.LIMIT];
    private int choices = 0;
    private final int[] drawable = new int[Acts.LIMIT];

    public TruceWall() {
        truce = reader.written();
        site.clear();
        for (int i = 0; i < marks.length; i++) {
            marks[i] = new Mark();
        }
        lookRound();
    }

    public int feed(long a, long b, long c) {
        takeSigns(a);
        takeSigns(b);
        takeSigns(c);
        return signs;
    }

    public int truce() {
        int fault = reader.readTruce(tape, signs);
        signs = 0;
        if (fault == 0) {
            truce = reader.written();
            site.clear();
            lookRound();
        }
        return fault;
    }

    public int stone(int stone, int what) {
        if (stone < 0 || stone >= truce.stones) {
            return NONE;
        }
        switch (what) {
            case 0:
                return truce.kinds[stone];
            case 1:
                return truce.wides[stone];
            default:
                return NONE;
        }
    }

    public int set(int stone, int column, int wide) {
        int refused = fits(stone, column, wide);
        if (refused == 0) {
            site.perform(truce, Acts.ofStone(stone, column, wide));
            lookRound();
        }
        return refused;
    }

    public int leave(int column) {
        int refused = gateRefused(column);
        if (refused == 0) {
            site.perform(truce, Acts.ofGate(column));
            lookRound();
        }
        return refused;
    }

    public int fits(int stone, int column, int wide) {
        if (!truce.isAsTold(stone, column, wide)) {
            return 1;
        }
        return isOver() ? 2 : truce.stoneHindrance(site.wall, stone, column, wide);
    }

    public boolean undo() {
        if (site.done == 0) {
            return false;
        }
        site.replay(truce, site.done - 1);
        lookRound();
        return true;
    }

    public int column(int column, int what) {
        if (column < 0 || column >= truce.columns) {
            return NONE;
        }
        switch (what) {
            case 0:
                return Truce.heightAt(site.wall, column);
            case 1:
                return Truce.gateAt(site.wall, column);
            case 2:
                return site.holesIn[column];
            case 3:
                return site.owners[column];
            default:
                return NONE;
        }
    }

    public int state(int what) throws NoSuchElementException {
        switch (what) {
            case 0:
                return site.done;
            case 1:
                return isOver() ? NONE : site.town();
            case 2:
                return truce.isClosed(site.wall) ? 1 : 0;
            case 3:
                return isOver() ? truce.payer(site.wall, site.town()) : NONE;
            case 4:
                return site.bill;
            case 5:
                return site.holesOf[0];
            case 6:
                return site.holesOf[1];
            case 7:
                return truce.gatesLeft(site.wall, 0);
            case 8:
                return truce.gatesLeft(site.wall, 1);
            case 9:
                return choices;
            default:
                throw new NoSuchElementException("no such state");
        }
    }

    public int act(int i, int what) {
        if (i < 0 || i >= choices) {
            return NONE;
        }
        int act = doable[i];
        switch (what) {
            case 0:
                return Acts.isGate(act) ? -2 : Acts.stoneOf(act);
            case 1:
                return Acts.columnOf(act);
            case 2:
                return Acts.isGate(act) ? 0 : Acts.wideOf(act);
            default:
                return NONE;
        }
    }

    public int pays() {
        return truce.isSmall ? Play.payerIn(outcomeNow()) : NONE;
    }

    public int days() {
        return truce.isSmall ? Play.daysIn(outcomeNow()) : NONE;
    }

    public int best() {
        if (!truce.isSmall) {
            return NONE;
        }
        int first = NONE;
        int most = -1;
        for (int i = 0; i < choices; i++) {
            int score = Play.score(outcomeBehind(doable[i]), site.town());
            if (score > most) {
                most = score;
                first = i;
            }
        }
        return first;
    }

    public int holds(int i) {
        if (i < 0 || i >= choices || !truce.isSmall) {
            return NONE;
        }
        return Play.daysIn(outcomeBehind(doable[i]));
    }

    public int mason(int town, int rule) {
        if (town < 0 || town > 1 || rule < 0 || rule > 2 || !truce.isSmall) {
            return NONE;
        }
        masonPlay.prepare(truce, town, rule);
        return Play.payerIn(masonPlay.outcome(site.wall, site.town(), 0));
    }

    public int reached(int days) {
        if (days < 0 || days > DAY_LIMIT || !truce.isSmall) {
            return NONE;
        }
        ways.spread(truce, site.wall, site.town(), days, false);
        return ways.unlikeWalls(truce);
    }

    public int histories(int days) {
        if (days < 0 || days > DAY_LIMIT || !truce.isSmall) {
            return NONE;
        }
        ways.spread(truce, Truce.NOTHING, 0, days, true);
        return ways.waysTo(truce, site.wall);
    }

    public int lots(int seed, int plays, int what) {
        if (seed < 0 || seed > 9999 || plays < 1 || plays > 100 || what < 0 || what > 1) {
            return NONE;
        }
        long g = seed;
        int paid = 0;
        int all = 0;
        for (int play = 0; play < plays; play++) {
            long wall = site.wall;
            int town = site.town();
            int many = truce.gather(wall, town, drawable);
            for (int day = 0; day < ACT_LIMIT && many > 0; day++) {
                g = (g * 1103515245L + 12345L) % 2147483648L;
                wall = truce.after(wall, town, drawable[(int) (g / 65536L % many)]);
                town = 1 - town;
                all++;
                many = truce.gather(wall, town, drawable);
            }
            paid += truce.payer(wall, town) == 0 ? 1 : 0;
        }
        return what == 0 ? paid : all;
    }

    public boolean mark(int mark, boolean back) {
        if (mark < 0 || mark >= marks.length) {
            return false;
        }
        Mark there = marks[mark];
        if (!back) {
            there.lay(truce, site);
            return true;
        }
        if (there.truce == null) {
            return false;
        }
        truce = there.truce;
        site.take(there.acts);
        site.replay(truce, there.done);
        lookRound();
        return true;
    }

    public int count(int what) {
        switch (what) {
            case 0:
                return truce.columns;
            case 1:
                return truce.high;
            case 2:
                return truce.stones;
            case 3:
                return truce.isSmall ? 1 : 0;
            case 4:
                return site.done;
            case 5:
                return signs;
            default:
                return NONE;
        }
    }

    private void takeSigns(long eight) {
        for (int shift = 56; shift >= 0; shift -= 8) {
            int sign = (int) (eight >>> shift) & 255;
            boolean allowed = sign == 10 || (sign >= 32 && sign <= 126);
            if (allowed && signs < tape.length) {
                tape[signs] = (char) sign;
                signs++;
            }
        }
    }

    private void lookRound() {
        choices = truce.gather(site.wall, site.town(), doable);
    }

    // A CLOSED wall leaves no ACT either, so one question answers both ways of being OVER.
    private boolean isOver() {
        return choices == 0;
    }

    private int gateRefused(int column) {
        if (column < 0 || column >= truce.columns) {
            return 1;
        }
        return isOver() ? 2 : truce.gateHindrance(site.wall, site.town(), column);
    }

    private int outcomeNow() {
        bestPlay.prepare(truce, NONE, NO_RULE);
        return bestPlay.outcome(site.wall, site.town(), 0);
    }

    private int outcomeBehind(int act) {
        bestPlay.prepare(truce, NONE, NO_RULE);
        long next = truce.after(site.wall, site.town(), act);
        return Play.later(bestPlay.outcome(next, 1 - site.town(), 1));
    }

    /** ACTS as numbers that rise in the order of ACTS: stone, column, how wide; gates last. */
    private static final class Acts {
        // The most that one wall can offer: 6 stones on 10 columns, 4 wide, and a gate in each.
        static final int LIMIT = 250;
        private static final int GATE = STONE_LIMIT;

        static int ofStone(int stone, int column, int wide) {
            return stone << 6 | column << 2 | (wide - 1);
        }

        static int ofGate(int column) {
            return GATE << 6 | column << 2;
        }

        static boolean isGate(int act) {
            return stoneOf(act) == GATE;
        }

        static int stoneOf(int act) {
            return act >> 6;
        }

        static int columnOf(int act) {
            return act >> 2 & 15;
        }

        static int wideOf(int act) {
            return (act & 3) + 1;
        }
    }

    /**
     * What a TRUCE tells, never changed, so that MARKS can share it; and what it makes of a wall.
     * A wall is one long, so that searches need no copies: four bits a column, its HEIGHT, or
     * GATE_SIGN and the town if there is a gate; above them a bit for each town that left a gate.
     */
    private static final class Truce {
        static final long NOTHING = 0L;
        private static final int GATE_SIGN = 8;
        private static final int GATE_LEFT_BIT = 4 * COLUMN_LIMIT;
        // The sign 1, and the GATE_SIGN, in each of the four columns that a stone lies on at most.
        private static final int EACH_ONE = 0x1111;
        private static final int EACH_GATE = 0x8888;

        final int columns;
        final int high;
        final int gates;
        final int stones;
        final int[] kinds;
        final int[] wides;
        final int[] fine;
        final boolean isSmall;
        // All ACTS that could be done on some wall, in order.
        final int[] candidates;

        Truce(Reader told) {
            columns = told.columns;
            high = told.high;
            gates = told.gates;
            stones = told.stones;
            kinds = told.kinds.clone();
            wides = told.wides.clone();
            fine = told.fineCode();
            isSmall = columns <= 5 && power(high + 1, columns) <= 256;
            candidates = allCandidates();
        }

        static int heightAt(long wall, int column) {
            int place = (int) (wall >>> 4 * column) & 15;
            return place < GATE_SIGN ? place : 0;
        }

        static int gateAt(long wall, int column) {
            int place = (int) (wall >>> 4 * column) & 15;
            return place < GATE_SIGN ? NONE : place - GATE_SIGN;
        }

        private static long withPlace(long wall, int column, int place) {
            int shift = 4 * column;
            return wall & ~(15L << shift) | (long) place << shift;
        }

        private static int power(int base, int exponent) {
            int product = 1;
            for (int i = 0; i < exponent; i++) {
                product *= base;
            }
            return product;
        }

        private int[] allCandidates() {
            int[] found = new int[Acts.LIMIT];
            int many = 0;
            for (int stone = 0; stone < stones; stone++) {
                for (int column = 0; column < columns; column++) {
                    for (int wide = 1; wide <= wides[stone]; wide++) {
                        boolean inside = kinds[stone] == TWIN || column + wide <= columns;
                        if (inside && isAsTold(stone, column, wide) && many < found.length) {
                            found[many] = Acts.ofStone(stone, column, wide);
                            many++;
                        }
                    }
                }
            }
            for (int column = 0; column < columns && gates > 0 && many < found.length; column++) {
                found[many] = Acts.ofGate(column);
                many++;
            }
            int[] exact = new int[many];
            System.arraycopy(found, 0, exact, 0, many);
            return exact;
        }

        boolean isAsTold(int stone, int column, int wide) {
            if (stone < 0 || stone >= stones || column < 0 || column >= columns) {
                return false;
            }
            if (kinds[stone] == CUT) {
                return wide >= 1 && wide <= wides[stone];
            }
            boolean onOneColumn = kinds[stone] == TWIN && column == twinOf(column);
            return wide == wides[stone] && !onOneColumn;
        }

        int twinOf(int column) {
            return columns - 1 - column;
        }

        /** Why a stone that is as told can't be SET there (3 to 6 of REFUSED), or 0. */
        int stoneHindrance(long wall, int stone, int column, int wide) {
            int kind = kinds[stone];
            if (kind == TWIN) {
                return twinHindrance(wall, column);
            }
            if (column + wide > columns) {
                return 3;
            }
            int mask = (1 << 4 * wide) - 1;
            int places = (int) (wall >>> 4 * column) & mask;
            if ((places & EACH_GATE) != 0) {
                return 4;
            }
            int level = places & 15;
            boolean stands = places == (level * EACH_ONE & mask);
            if (kind == ROUND) {
                stands = roundStands(wall, column, level);
            } else if (kind == BRIDGE) {
                stands = bridgeStands(places, level, wide);
            }
            if (!stands) {
                return 5;
            }
            return level < high ? 0 : 6;
        }

        private int twinHindrance(long wall, int column) {
            int other = twinOf(column);
            if (gateAt(wall, column) != NONE || gateAt(wall, other) != NONE) {
                return 4;
            }
            return heightAt(wall, column) < high && heightAt(wall, other) < high ? 0 : 6;
        }

        // Neighbours that are not there, or have a gate, need not hold a round stone.
        private boolean roundStands(long wall, int column, int level) {
            for (int c = column - 1; c <= column + 1; c += 2) {
                boolean asked = c >= 0 && c < columns && gateAt(wall, c) == NONE;
                if (asked && heightAt(wall, c) <= level) {
                    return false;
                }
            }
            return true;
        }

        private static boolean bridgeStands(int places, int level, int wide) {
            for (int i = 1; i < wide - 1; i++) {
                if ((places >> 4 * i & 15) > level) {
                    return false;
                }
            }
            return places >> 4 * (wide - 1) == level;
        }

        /** Why a town can't leave a gate in a column that is there (3 to 5 of REFUSED), or 0. */
        int gateHindrance(long wall, int town, int column) {
            if (gatesLeft(wall, town) == 0) {
                return 3;
            }
            if (gateAt(wall, column) != NONE) {
                return 4;
            }
            return heightAt(wall, column) == 0 ? 0 : 5;
        }

        int gatesLeft(long wall, int town) {
            return gates - ((int) (wall >>> GATE_LEFT_BIT + town) & 1);
        }

        private static long withGate(long wall, int column, int town) {
            return withPlace(wall, column, GATE_SIGN + town) | 1L << GATE_LEFT_BIT + town;
        }

        boolean canDo(long wall, int town, int act) {
            int column = Acts.columnOf(act);
            if (Acts.isGate(act)) {
                return gateHindrance(wall, town, column) == 0;
            }
            return stoneHindrance(wall, Acts.stoneOf(act), column, Acts.wideOf(act)) == 0;
        }

        /** Puts the ACTS that can be done into a row, in order, and answers how many there are. */
        int gather(long wall, int town, int[] row) {
            int many = 0;
            for (int i = 0; i < candidates.length && many < row.length; i++) {
                if (canDo(wall, town, candidates[i])) {
                    row[many] = candidates[i];
                    many++;
                }
            }
            return many;
        }

        long after(long wall, int town, int act) {
            int column = Acts.columnOf(act);
            if (Acts.isGate(act)) {
                return withGate(wall, column, town);
            }
            int raised = heightAt(wall, column) + 1;
            if (kinds[Acts.stoneOf(act)] == TWIN) {
                int other = twinOf(column);
                return withPlace(withPlace(wall, column, raised), other, heightAt(wall, other) + 1);
            }
            long next = wall;
            for (int c = column; c < column + Acts.wideOf(act); c++) {
                next = withPlace(next, c, raised);
            }
            return next;
        }

        boolean isClosed(long wall) {
            for (int c = 0; c < columns; c++) {
                if (gateAt(wall, c) == NONE && heightAt(wall, c) < high) {
                    return false;
                }
            }
            return true;
        }

        /** The town that PAYS for a wall that is OVER when that town would be on turn. */
        int payer(long wall, int town) {
            return isClosed(wall) ? 1 - town : town;
        }

        // Each ACT makes a wall's number greater: a gate counts more than any HEIGHT.
        int numberOf(long wall) {
            int number = 0;
            for (int c = columns - 1; c >= 0; c--) {
                int gate = gateAt(wall, c);
                number = number * (high + 3) + (gate == NONE ? heightAt(wall, c) : high + 1 + gate);
            }
            return number;
        }

        /** The number of the wall as if all gates were town 0's: walls are unlike if these are. */
        int numberOfLooks(long wall) {
            int number = 0;
            for (int c = columns - 1; c >= 0; c--) {
                boolean open = gateAt(wall, c) != NONE;
                number = number * (high + 3) + (open ? high + 1 : heightAt(wall, c));
            }
            return number;
        }

        long wallOf(int number) {
            long wall = NOTHING;
            int rest = number;
            for (int c = 0; c < columns; c++) {
                int digit = rest % (high + 3);
                rest /= high + 3;
                boolean open = digit > high;
                wall = open ? withGate(wall, c, digit - high - 1) : withPlace(wall, c, digit);
            }
            return wall;
        }

        int manyNumbers() {
            return power(high + 3, columns);
        }
    }

    /** Reads a TRUCE from the TAPE; behind its first FAULT it neither steps on nor tells more. */
    private static final class Reader {
        private static final String WORDS =
            "wall  stone gates fine  plain bridgeround twin  lent  cut   wide  level holes day   not   and   or    ";
        private static final int WORD_CELL = 6;
        private static final int WORD_COUNT = 17;
        // A token is its sign, or FIRST_WORD and the word's number in WORDS, or NAME to END.
        private static final int FIRST_WORD = 128;
        private static final int WALL = 128;
        private static final int STONE = 129;
        private static final int GATES = 130;
        private static final int FINE = 131;
        private static final int FIRST_KIND = 132;
        private static final int LAST_KIND = 137;
        private static final int WIDE = 138;
        private static final int LEVEL = 139;
        private static final int HOLES = 140;
        private static final int DAY = 141;
        private static final int NOT = 142;
        private static final int AND = 143;
        private static final int OR = 144;
        private static final int NAME = 256;
        private static final int NUMBER = 257;
        private static final int NO_TOKEN = 258;
        private static final int END = 259;
        private static final int DEPTH_LIMIT = 5;
        private static final int LONGEST_WORD = 8;
        private static final int LONGEST_NUMBER = 4;

        int columns = 2;
        int high = 1;
        int gates = 0;
        int stones = 0;
        final int[] kinds = new int[STONE_LIMIT];
        final int[] wides = new int[STONE_LIMIT];
        private final long[] names = new long[STONE_LIMIT];
        private final int[] code = new int[TAPE_LIMIT];
        private int codeLength = 0;
        private boolean gatesTold = false;
        private boolean fineTold = false;

        private char[] text = new char[0];
        private int length = 0;
        private int fault = 0;
        private int place = 0;
        private int behind = 0;
        private int token = END;
        private int number = 0;
        private long name = 0L;

        Truce written() {
            return new Truce(this);
        }

        int[] fineCode() {
            int[] fine = new int[fineTold ? codeLength : 1];
            if (fineTold) {
                System.arraycopy(code, 0, fine, 0, codeLength);
            } else {
                fine[0] = -WIDE;
            }
            return fine;
        }

        int readTruce(char[] tape, int signs) {
            text = tape;
            length = signs;
            fault = 0;
            behind = 0;
            gates = 0;
            stones = 0;
            codeLength = 0;
            gatesTold = false;
            fineTold = false;
            step();
            wallLine();
            for (int i = 0; i < TAPE_LIMIT && fault == 0 && token != END; i++) {
                switch (token) {
                    case STONE:
                        stoneLine();
                        break;
                    case GATES:
                        gatesLine();
                        break;
                    case FINE:
                        fineLine();
                        break;
                    default:
                        wrong(1);
                        break;
                }
            }
            return fault;
        }

        private void wallLine() {
            expect(WALL);
            columns = expectNumber(2, COLUMN_LIMIT);
            high = expectNumber(1, 6);
            expect(';');
        }

        private void stoneLine() {
            if (stones >= STONE_LIMIT) {
                wrong(5);
                return;
            }
            step();
            names[stones] = expectName();
            int kind = expectKind();
            int least = kind == BRIDGE ? 2 : 1;
            int most = kind == ROUND || kind == TWIN ? 1 : 4;
            kinds[stones] = kind;
            wides[stones] = expectNumber(least, most);
            expect(';');
            stones++;
        }

        private void gatesLine() {
            if (gatesTold) {
                wrong(3);
                return;
            }
            gatesTold = true;
            step();
            gates = expectNumber(0, 1);
            expect(';');
        }

        private void fineLine() {
            if (fineTold) {
                wrong(3);
                return;
            }
            fineTold = true;
            step();
            readE(0);
            expect(';');
        }

        private void readE(int depth) {
            readTest(depth);
            for (int i = 0; i < TAPE_LIMIT && fault == 0 && (token == AND || token == OR); i++) {
                int join = token;
                step();
                readTest(depth);
                emit(-join);
            }
        }

        private void readTest(int depth) {
            readSum(depth);
            if (fault == 0 && (token == '<' || token == '=')) {
                int join = token;
                step();
                readSum(depth);
                emit(-join);
            }
        }

        private void readSum(int depth) {
            readProduct(depth);
            for (int i = 0; i < TAPE_LIMIT && fault == 0 && (token == '+' || token == '-'); i++) {
                int join = token;
                step();
                readProduct(depth);
                emit(-join);
            }
        }

        private void readProduct(int depth) {
            readPart(depth);
            for (int i = 0; i < TAPE_LIMIT && fault == 0 && token == '*'; i++) {
                step();
                readPart(depth);
                emit(-'*');
            }
        }

        private void readPart(int depth) {
            boolean isFact = token >= WIDE && token <= DAY;
            if (!isFact && token != NUMBER && token != NOT && token != '(') {
                wrong(1);
            } else if (depth >= DEPTH_LIMIT) {
                wrong(5);
            } else if (token == NUMBER) {
                emit(number);
                step();
            } else if (isFact) {
                emit(-token);
                step();
            } else if (token == NOT) {
                step();
                readPart(depth + 1);
                emit(-NOT);
            } else {
                step();
                readE(depth + 1);
                expect(')');
            }
        }

        // E is kept with each join behind its two parts: NUMBERS as they are, tokens below 0.
        private void emit(int item) {
            if (fault == 0 && codeLength < code.length) {
                code[codeLength] = item;
                codeLength++;
            }
        }

        private void wrong(int kind) {
            if (fault == 0) {
                fault = kind + 16 * place;
            }
        }

        private void expect(int wanted) {
            if (token == wanted) {
                step();
            } else {
                wrong(1);
            }
        }

        private int expectNumber(int least, int most) {
            if (token != NUMBER) {
                wrong(1);
                return least;
            }
            if (number < least || number > most) {
                wrong(4);
                return least;
            }
            int told = number;
            step();
            return told;
        }

        private int expectKind() {
            if (token < FIRST_KIND || token > LAST_KIND) {
                wrong(1);
                return PLAIN;
            }
            int kind = token - FIRST_KIND;
            step();
            return kind;
        }

        private long expectName() {
            if (token != NAME) {
                wrong(1);
                return 0L;
            }
            for (int i = 0; i < stones; i++) {
                if (names[i] == name) {
                    wrong(3);
                }
            }
            long told = name;
            step();
            return told;
        }

        private void step() {
            if (fault != 0) {
                return;
            }
            int from = behind;
            while (from < length && (text[from] == 10 || text[from] == 32)) {
                from++;
            }
            place = from;
            if (from >= length) {
                token = END;
            } else if (isLetter(text[from])) {
                stepWord();
            } else if (isDigit(text[from])) {
                stepNumber();
            } else {
                behind = from + 1;
                token = isSign(text[from]) ? text[from] : NO_TOKEN;
            }
        }

        private void stepWord() {
            int end = place;
            while (end < length && isLetter(text[end])) {
                end++;
            }
            behind = end;
            if (end - place > LONGEST_WORD) {
                token = NO_TOKEN;
                return;
            }
            // Eight letters fit into a long, so NAMES are compared as numbers.
            name = 0L;
            for (int i = place; i < end; i++) {
                name = name << 8 | text[i];
            }
            token = knownWord(end - place);
        }

        private int knownWord(int letters) {
            for (int word = 0; word < WORD_COUNT && letters <= WORD_CELL; word++) {
                int cell = word * WORD_CELL;
                int same = 0;
                while (same < letters && WORDS.charAt(cell + same) == text[place + same]) {
                    same++;
                }
                boolean ends = same == WORD_CELL || WORDS.charAt(cell + same) == ' ';
                if (same == letters && ends) {
                    return FIRST_WORD + word;
                }
            }
            return NAME;
        }

        private void stepNumber() {
            int end = place;
            number = 0;
            while (end < length && isDigit(text[end])) {
                // Ints wrap in a NUMBER that is too long, which is none anyway.
                number = number * 10 + text[end] - '0';
                end++;
            }
            behind = end;
            token = end - place > LONGEST_NUMBER ? NO_TOKEN : NUMBER;
        }

        private static boolean isLetter(char sign) {
            return sign >= 'a' && sign <= 'z';
        }

        private static boolean isDigit(char sign) {
            return sign >= '0' && sign <= '9';
        }

        private static boolean isSign(char sign) {
            return sign == '(' || sign == ')' || sign == '<' || sign == '=' || sign == '+'
                || sign == '-' || sign == '*' || sign == ';';
        }
    }

    /** What has been done, and what has come of it beside the wall itself. */
    private static final class Site {
        final int[] acts = new int[ACT_LIMIT];
        int done = 0;
        long wall = Truce.NOTHING;
        int bill = 0;
        final int[] holesOf = new int[2];
        final int[] holesIn = new int[COLUMN_LIMIT];
        final int[] owners = new int[COLUMN_LIMIT];
        private final Reckoner reckoner = new Reckoner();

        int town() {
            return done & 1;
        }

        void clear() {
            done = 0;
            wall = Truce.NOTHING;
            bill = 0;
            holesOf[0] = 0;
            holesOf[1] = 0;
            for (int c = 0; c < COLUMN_LIMIT; c++) {
                holesIn[c] = 0;
                owners[c] = NONE;
            }
        }

        void take(int[] others) {
            System.arraycopy(others, 0, acts, 0, ACT_LIMIT);
        }

        // What an ACT hides (owners, HOLES) comes back by doing again all ACTS ahead of it.
        void replay(Truce truce, int many) {
            clear();
            for (int i = 0; i < many && i < acts.length; i++) {
                perform(truce, acts[i]);
            }
        }

        void perform(Truce truce, int act) {
            if (done >= acts.length) {
                return;
            }
            if (!Acts.isGate(act)) {
                lodge(truce, act);
            }
            wall = truce.after(wall, town(), act);
            acts[done] = act;
            done++;
        }

        private void lodge(Truce truce, int act) {
            int kind = truce.kinds[Acts.stoneOf(act)];
            int column = Acts.columnOf(act);
            int wide = Acts.wideOf(act);
            int level = Truce.heightAt(wall, column);
            int owner = kind == LENT ? 1 - town() : town();
            if (kind == TWIN) {
                owners[column] = owner;
                owners[truce.twinOf(column)] = owner;
                bill += reckoner.worth(truce.fine, 2, level, 0, done);
                return;
            }
            int holes = 0;
            for (int c = column; c < column + wide; c++) {
                int lower = level - Truce.heightAt(wall, c);
                holes += lower;
                holesIn[c] += lower;
                owners[c] = owner;
            }
            holesOf[owner] += holes;
            bill += reckoner.worth(truce.fine, wide, level, holes, done);
        }
    }

    /** Reckons E for one stone. */
    private static final class Reckoner {
        // Each of five depths keeps at most four parts waiting, one for each join that binds.
        private final int[] waiting = new int[32];
        private int top = 0;

        int worth(int[] fine, int wide, int level, int holes, int day) {
            top = 0;
            for (int i = 0; i < fine.length; i++) {
                int item = fine[i];
                switch (-item) {
                    case Reader.WIDE:
                        push(wide);
                        break;
                    case Reader.LEVEL:
                        push(level);
                        break;
                    case Reader.HOLES:
                        push(holes);
                        break;
                    case Reader.DAY:
                        push(day);
                        break;
                    case Reader.NOT:
                        push(pop() == 0 ? 1 : 0);
                        break;
                    default:
                        if (item >= 0) {
                            push(item);
                        } else {
                            int right = pop();
                            push(joined(-item, pop(), right));
                        }
                        break;
                }
            }
            return pop();
        }

        private static int joined(int join, int left, int right) {
            switch (join) {
                case '*':
                    return left * right;
                case '+':
                    return left + right;
                case '-':
                    return left - right;
                case '<':
                    return left < right ? 1 : 0;
                case '=':
                    return left == right ? 1 : 0;
                case Reader.AND:
                    return left != 0 && right != 0 ? 1 : 0;
                default:
                    return left != 0 || right != 0 ? 1 : 0;
            }
        }

        private void push(int value) {
            if (top < waiting.length) {
                waiting[top] = value;
                top++;
            }
        }

        private int pop() {
            if (top > 0) {
                top--;
            }
            return waiting[top];
        }
    }

    /** What a MARK holds; truce is null while nothing is on it. */
    private static final class Mark {
        Truce truce = null;
        final int[] acts = new int[ACT_LIMIT];
        int done = 0;

        void lay(Truce now, Site site) {
            truce = now;
            System.arraycopy(site.acts, 0, acts, 0, ACT_LIMIT);
            done = site.done;
        }
    }

    /**
     * How play ends on SMALL walls if both towns play BEST, or one of them is a MASON. An outcome
     * is the town that PAYS and twice the DAYS until then.
     */
    private static final class Play {
        // No SMALL wall has more places than 3 columns of 5; its play is no longer than that.
        private static final int DEEPEST = 20;
        // 0 for what is not known yet, else the outcome and 1; by a wall's number and the turn.
        private final int[] known = new int[2 * SMALL_WALLS];
        private Truce truce = null;
        private int mason = NONE;
        private int rule = NO_RULE;

        static int payerIn(int outcome) {
            return outcome & 1;
        }

        static int daysIn(int outcome) {
            return outcome >> 1;
        }

        static int later(int outcome) {
            return outcome + 2;
        }

        /** The greater, the better an outcome is for a town; never below 0. */
        static int score(int outcome, int town) {
            int days = daysIn(outcome);
            return payerIn(outcome) == town ? days : 1000 - days;
        }

        // What is known stays true while the TRUCE and the MASON are the same, wherever play goes.
        void prepare(Truce now, int masonNow, int ruleNow) {
            if (truce == now && mason == masonNow && rule == ruleNow) {
                return;
            }
            truce = now;
            mason = masonNow;
            rule = ruleNow;
            for (int i = 0; i < known.length; i++) {
                known[i] = 0;
            }
        }

        private int outcome(long wall, int town, int depth) {
            if (truce == null || depth > DEEPEST) {
                return town;
            }
            int number = 2 * truce.numberOf(wall) + town;
            if (number >= known.length) {
                return town;
            }
            if (known[number] == 0) {
                known[number] = 1 + (town == mason
                    ? outcomeByRule(wall, town, depth) : outcomeByChoice(wall, town, depth));
            }
            return known[number] - 1;
        }

        private int outcomeByChoice(long wall, int town, int depth) {
            int chosen = NONE;
            for (int i = 0; i < truce.candidates.length; i++) {
                int act = truce.candidates[i];
                if (truce.canDo(wall, town, act)) {
                    int end = later(outcome(truce.after(wall, town, act), 1 - town, depth + 1));
                    if (chosen == NONE || score(end, town) > score(chosen, town)) {
                        chosen = end;
                    }
                }
            }
            return chosen == NONE ? truce.payer(wall, town) : chosen;
        }

        private int outcomeByRule(long wall, int town, int depth) {
            int act = actByRule(wall, town);
            if (act == NONE) {
                return truce.payer(wall, town);
            }
            return later(outcome(truce.after(wall, town, act), 1 - town, depth + 1));
        }

        private int actByRule(long wall, int town) {
            int chosen = NONE;
            int lowest = 0;
            for (int i = 0; i < truce.candidates.length; i++) {
                int act = truce.candidates[i];
                if (truce.canDo(wall, town, act)) {
                    int height = Truce.heightAt(wall, Acts.columnOf(act));
                    if (chosen == NONE || rule == 1 || (rule == 2 && height < lowest)) {
                        chosen = act;
                        lowest = height;
                    }
                }
            }
            return chosen;
        }
    }

    /** Which SMALL walls come about behind some DAYS, and in how many ways. */
    private static final class Ways {
        private static final int MODULUS = 1000000007;
        private final int[] many = new int[SMALL_WALLS];

        /** All that can be played from a wall: counted, or told by 1, as a count may come to 0. */
        void spread(Truce truce, long from, int town, int days, boolean counted) {
            for (int i = 0; i < many.length; i++) {
                many[i] = 0;
            }
            int start = truce.numberOf(from);
            if (start >= many.length) {
                return;
            }
            many[start] = 1;
            boolean goesOn = true;
            for (int day = 0; day < days && goesOn; day++) {
                goesOn = spreadDay(truce, (town + day) & 1, counted);
            }
        }

        // From the greatest number down: what comes of a wall has a greater one, and is through.
        private boolean spreadDay(Truce truce, int town, boolean counted) {
            boolean moved = false;
            for (int i = Math.min(many.length, truce.manyNumbers()) - 1; i >= 0; i--) {
                if (many[i] != 0) {
                    int here = many[i];
                    many[i] = 0;
                    spreadWall(truce, truce.wallOf(i), town, here, counted);
                    moved = true;
                }
            }
            return moved;
        }

        private void spreadWall(Truce truce, long wall, int town, int here, boolean counted) {
            for (int i = 0; i < truce.candidates.length; i++) {
                int act = truce.candidates[i];
                if (truce.canDo(wall, town, act)) {
                    int next = truce.numberOf(truce.after(wall, town, act));
                    if (next < many.length) {
                        many[next] = counted ? (int) (((long) many[next] + here) % MODULUS) : 1;
                    }
                }
            }
        }

        int unlikeWalls(Truce truce) {
            int unlike = 0;
            for (int i = many.length - 1; i >= 0; i--) {
                if (many[i] != 0) {
                    // What it looks like has no greater number, so that is still to be counted.
                    int looks = truce.numberOfLooks(truce.wallOf(i));
                    if (looks == i) {
                        unlike++;
                    } else if (looks < many.length) {
                        many[looks] = 1;
                    }
                }
            }
            return unlike;
        }

        int waysTo(Truce truce, long wall) {
            int wanted = truce.numberOfLooks(wall);
            long sum = 0L;
            for (int i = 0; i < many.length; i++) {
                if (many[i] != 0 && truce.numberOfLooks(truce.wallOf(i)) == wanted) {
                    sum += many[i];
                }
            }
            return (int) (sum % MODULUS);
        }
    }
}
