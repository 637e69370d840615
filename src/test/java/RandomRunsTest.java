import java.util.Random;

/** Random runs of calls, each answer compared with that of Reference. */
public final class RandomRunsTest {
    private static final String[] SOUP = {"wall", "stone", "gates", "fine", "plain", "bridge", "round",
        "twin", "lent", "cut", "wide", "level", "holes", "day", "not", "and", "or", "a", "b", "abcdefgh",
        "abcdefghi", "0", "1", "2", "3", "4", "5", "7", "10", "11", "0001", "12345", "9999", "(", ")", "<",
        "=", "+", "-", "*", ";", "A", "/", "~", " ", "\n", "  "};
    private static final String[] JOINS = {" and ", " or ", "<", "=", "+", "-", "*", "+", "-", "*"};
    private static final String[] LEAVES = {"wide", "level", "holes", "day", "1", "0", "7", "9999"};

    private final Random random;
    private final Check check;

    private RandomRunsTest(long seed, Check check) {
        random = new Random(seed);
        this.check = check;
    }

    private int below(int n) {
        return random.nextInt(n);
    }

    private String fineText(int deep) {
        switch (deep <= 0 ? below(4) : below(12)) {
            case 4:
            case 5:
            case 6:
                return "(" + fineText(deep - 1) + ")";
            case 7:
            case 8:
                return "not " + fineText(deep - 1);
            case 9:
            case 10:
            case 11:
                return fineText(deep - 1) + JOINS[below(JOINS.length)] + fineText(deep - 1);
            default:
                return LEAVES[below(LEAVES.length)];
        }
    }

    private String truceText(boolean small) {
        int[][] sizes = {{2, 6}, {3, 5}, {4, 3}, {5, 2}};
        int[] size = sizes[below(sizes.length)];
        int wide = small ? size[0] : 2 + below(9);
        int high = small ? 1 + below(size[1]) : 1 + below(6);
        StringBuilder text = new StringBuilder("wall " + wide + " " + high + ";");
        int stones = below(7);
        for (int i = 0; i < stones; i++) {
            int kind = below(6);
            int least = kind == 1 ? 2 : 1;
            int most = kind == 2 || kind == 3 ? 1 : 4;
            text.append("stone ").append((char) ('a' + i)).append(' ').append(Reference.KINDS.get(kind))
                .append(' ').append(least + below(most - least + 1)).append(';');
        }
        if (below(2) == 0) {
            text.append("gates ").append(below(4) == 0 ? 0 : 1).append(';');
        }
        if (below(2) == 0) {
            text.append("fine ").append(fineText(1 + below(5))).append(';');
        }
        return text.toString();
    }

    /** A text that is often wrong: pieces are put in, left out or cut off. */
    private String spoiltText() {
        if (below(5) == 0) {
            StringBuilder fine = new StringBuilder("wall 3 2;fine ");
            for (int i = below(14); i >= 0; i--) {
                String[] part = {"(", "not ", "1", "day", ")", "+", "<", "and "};
                fine.append(part[below(part.length)]);
            }
            return fine.append(";").toString();
        }
        StringBuilder text = new StringBuilder(truceText(below(2) == 0));
        for (int i = below(3); i >= 0; i--) {
            int at = below(text.length() + 1);
            switch (below(4)) {
                case 0:
                    text.insert(at, SOUP[below(SOUP.length)]);
                    break;
                case 1:
                    text.delete(at, Math.min(text.length(), at + 1 + below(4)));
                    break;
                case 2:
                    text.insert(at, " " + SOUP[below(SOUP.length)] + " ");
                    break;
                default:
                    text.append(SOUP[below(SOUP.length)]);
                    break;
            }
        }
        return text.toString();
    }

    private void tell(TruceWall wall, Reference reference, String text) {
        long[] parts = Check.packed(text);
        for (int i = 0; i < parts.length; i += 3) {
            check.due("feed", wall.feed(parts[i], parts[i + 1], parts[i + 2]),
                reference.feed(parts[i], parts[i + 1], parts[i + 2]));
        }
        check.due("truce of '" + text + "'", wall.truce(), reference.truce());
    }

    private void compareAll(TruceWall wall, Reference reference, String text) {
        for (int what = -1; what <= 10; what++) {
            check.due("state " + what + " in " + text, Check.state(wall, what), reference.state(what));
        }
        for (int what = -1; what <= 6; what++) {
            check.due("count " + what + " in " + text, wall.count(what), reference.count(what));
        }
        for (int c = -1; c <= reference.count(0); c++) {
            for (int what = -1; what <= 4; what++) {
                check.due("column " + c + " " + what + " in " + text, wall.column(c, what),
                    reference.column(c, what));
            }
        }
        int i = below(reference.state(9) + 2) - 1;
        for (int what = -1; what <= 3; what++) {
            check.due("act " + i + " " + what + " in " + text, wall.act(i, what), reference.act(i, what));
        }
        int s = below(8) - 1;
        for (int what = -1; what <= 2; what++) {
            check.due("stone " + s + " " + what + " in " + text, wall.stone(s, what), reference.stone(s, what));
        }
    }

    private void compareSearches(TruceWall wall, Reference reference, String text) {
        check.due("pays in " + text, wall.pays(), reference.pays());
        check.due("days in " + text, wall.days(), reference.days());
        check.due("best in " + text, wall.best(), reference.best());
        for (int i = -1; i <= reference.state(9); i++) {
            check.due("holds " + i + " in " + text, wall.holds(i), reference.holds(i));
        }
        for (int town = -1; town <= 2; town++) {
            for (int rule = -1; rule <= 3; rule++) {
                check.due("mason " + town + " " + rule + " in " + text, wall.mason(town, rule),
                    reference.mason(town, rule));
            }
        }
        int[] days = {-1, 0, 1, 2, 3, 5, 7, 9, 12, 15, 16, 30, 31};
        int d = days[below(days.length)];
        check.due("reached " + d + " in " + text, wall.reached(d), reference.reached(d));
        check.due("histories " + d + " in " + text, wall.histories(d), reference.histories(d));
        int day = Check.state(wall, 0);
        check.due("histories now in " + text, wall.histories(day), reference.histories(day));
    }

    private void compareLots(TruceWall wall, Reference reference, String text) {
        int seed = below(10) == 0 ? 9999 + below(2) : below(10002) - 1;
        int plays = below(10) == 0 ? 100 + below(2) : below(12);
        int what = below(10) == 0 ? 2 : below(3) - 1;
        check.due("lots in " + text, wall.lots(seed, plays, what), reference.lots(seed, plays, what));
    }

    private void step(TruceWall wall, Reference reference, String text) {
        int many = reference.state(9);
        int way = below(10);
        if (way < 6 && many > 0) {
            int i = below(many);
            int stone = reference.act(i, 0);
            int column = reference.act(i, 1);
            int wide = reference.act(i, 2);
            if (stone == -2) {
                check.due("leave in " + text, wall.leave(column), reference.leave(column));
            } else {
                check.due("set in " + text, wall.set(stone, column, wide), reference.set(stone, column, wide));
            }
        } else if (way < 7) {
            int stone = below(8) - 1;
            int column = below(reference.count(0) + 2) - 1;
            int wide = below(6);
            check.due("fits in " + text, wall.fits(stone, column, wide), reference.fits(stone, column, wide));
            check.due("set in " + text, wall.set(stone, column, wide), reference.set(stone, column, wide));
        } else if (way < 8) {
            int column = below(reference.count(0) + 2) - 1;
            check.due("leave in " + text, wall.leave(column), reference.leave(column));
        } else if (way < 9) {
            check.due("undo in " + text, wall.undo(), reference.undo());
        } else {
            int mark = below(6) - 1;
            boolean back = below(3) == 0;
            check.due("mark in " + text, wall.mark(mark, back), reference.mark(mark, back));
        }
    }

    private void allFits(TruceWall wall, Reference reference, String text) {
        for (int s = -1; s <= 6; s++) {
            for (int c = -1; c <= reference.count(0); c++) {
                for (int w = 0; w <= 5; w++) {
                    check.due("fits " + s + " " + c + " " + w + " in " + text, wall.fits(s, c, w),
                        reference.fits(s, c, w));
                }
            }
        }
    }

    private int wild() {
        int[] edges = {Integer.MIN_VALUE, Integer.MAX_VALUE, -1, 0, 1, 2, 3, 4, 5, 9, 10, 30, 31, 60, 100, 250, 9999};
        return below(8) == 0 ? random.nextInt() : edges[below(edges.length)];
    }

    private void wildCalls(TruceWall wall, Reference reference, String text) {
        int a = wild();
        int b = wild();
        int c = wild();
        String what = a + " " + b + " " + c + " in " + text;
        check.due("fits " + what, wall.fits(a, b, c), reference.fits(a, b, c));
        check.due("set " + what, wall.set(a, b, c), reference.set(a, b, c));
        check.due("leave " + what, wall.leave(a), reference.leave(a));
        check.due("stone " + what, wall.stone(a, b), reference.stone(a, b));
        check.due("column " + what, wall.column(a, b), reference.column(a, b));
        check.due("state " + what, Check.state(wall, a), reference.state(a));
        check.due("act " + what, wall.act(a, b), reference.act(a, b));
        check.due("holds " + what, wall.holds(a), reference.holds(a));
        check.due("mason " + what, wall.mason(a, b), reference.mason(a, b));
        check.due("reached " + what, wall.reached(a), reference.reached(a));
        check.due("histories " + what, wall.histories(a), reference.histories(a));
        check.due("lots " + what, wall.lots(a, b > 20 ? 101 : b, c), reference.lots(a, b > 20 ? 101 : b, c));
        check.due("mark " + what, wall.mark(a, b < 2), reference.mark(a, b < 2));
        check.due("count " + what, wall.count(a), reference.count(a));
        long signs = random.nextLong();
        check.due("feed " + signs, wall.feed(signs, ~signs, signs * 31), reference.feed(signs, ~signs, signs * 31));
    }

    private void run(boolean small, int steps) {
        TruceWall wall = new TruceWall();
        Reference reference = new Reference();
        String text = truceText(small);
        tell(wall, reference, text);
        for (int i = 0; i < steps && !check.failed(); i++) {
            step(wall, reference, text);
            compareAll(wall, reference, text);
            if (below(4) == 0) {
                compareLots(wall, reference, text);
            }
            if (below(6) == 0) {
                allFits(wall, reference, text);
            }
            if (below(4) == 0) {
                wildCalls(wall, reference, text);
            }
            if (below(5) == 0) {
                compareSearches(wall, reference, text);
            }
            if (below(12) == 0) {
                text = below(2) == 0 ? spoiltText() : truceText(small);
                tell(wall, reference, text);
            }
        }
    }

    public static void main(String[] args) {
        Check check = new Check("RandomRunsTest");
        int runs = args.length > 0 ? Integer.parseInt(args[0]) : 150;
        long first = args.length > 1 ? Long.parseLong(args[1]) : 1L;
        for (int i = 0; i < runs && !check.failed(); i++) {
            RandomRunsTest test = new RandomRunsTest(first + i, check);
            test.run(i % 2 == 0, 25);
            TruceWall wall = new TruceWall();
            Reference reference = new Reference();
            for (int k = 0; k < 100 && !check.failed(); k++) {
                test.tell(wall, reference, test.spoiltText());
            }
        }
        check.end();
    }
}
