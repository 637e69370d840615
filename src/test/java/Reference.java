import java.math.BigInteger;
import java.util.ArrayDeque;
import java.util.ArrayList;
import java.util.Arrays;
import java.util.Deque;
import java.util.HashMap;
import java.util.HashSet;
import java.util.List;
import java.util.Map;
import java.util.Set;
import java.util.TreeSet;

/**
 * A second, plain and slow reading of the document, written apart from TruceWall with the Java
 * library, so that long random runs can be compared. It keeps whole histories, maps and sets.
 */
final class Reference {
    static final class Fault extends RuntimeException {
        final int number;

        Fault(int kind, int place) {
            number = kind + 16 * place;
        }
    }

    interface Fine {
        int of(int wide, int level, int holes, int day);
    }

    record Stone(String name, String kind, int wide) { }

    record Act(int stone, int column, int wide) { }

    record Token(String text, int place) {
        boolean isNumber() {
            return text.matches("[0-9]{1,4}");
        }

        boolean isWord() {
            return text.matches("[a-z]{1,8}");
        }

        boolean is(String... any) {
            return Arrays.asList(any).contains(text);
        }
    }

    static final List<String> KINDS = List.of("plain", "bridge", "round", "twin", "lent", "cut");
    static final Set<String> KEPT = new HashSet<>(List.of("wall", "stone", "gates", "fine", "wide",
        "level", "holes", "day", "not", "and", "or", "plain", "bridge", "round", "twin", "lent", "cut"));

    static final class Law {
        int wide = 2;
        int high = 1;
        int gates = 0;
        List<Stone> stones = new ArrayList<>();
        Fine fine = (wide, level, holes, day) -> wide;

        boolean isSmall() {
            return wide <= 5 && Math.pow(high + 1, wide) <= 256.5;
        }
    }

    static final class Position {
        final Law law;
        final int[] height;
        final int[] gate;
        final int[] holesIn;
        final int[] owner;
        final int[] holesOf = new int[2];
        int day = 0;
        int bill = 0;

        Position(Law law) {
            this.law = law;
            height = new int[law.wide];
            gate = new int[law.wide];
            holesIn = new int[law.wide];
            owner = new int[law.wide];
            Arrays.fill(gate, -1);
            Arrays.fill(owner, -1);
        }

        Position(Position other) {
            law = other.law;
            height = other.height.clone();
            gate = other.gate.clone();
            holesIn = other.holesIn.clone();
            owner = other.owner.clone();
            holesOf[0] = other.holesOf[0];
            holesOf[1] = other.holesOf[1];
            day = other.day;
            bill = other.bill;
        }

        int turn() {
            return day % 2;
        }

        int gatesLeft(int town) {
            return law.gates - (int) Arrays.stream(gate).filter(g -> g == town).count();
        }

        boolean isClosed() {
            for (int c = 0; c < law.wide; c++) {
                if (gate[c] < 0 && height[c] != law.high) {
                    return false;
                }
            }
            return true;
        }

        List<Act> acts() {
            List<Act> all = new ArrayList<>();
            if (isClosed()) {
                return all;
            }
            for (int s = 0; s < law.stones.size(); s++) {
                for (int c = 0; c < law.wide; c++) {
                    for (int w = 1; w <= 4; w++) {
                        if (wrongStone(s, c, w) == 0 && hindered(s, c, w) == 0) {
                            all.add(new Act(s, c, w));
                        }
                    }
                }
            }
            for (int c = 0; c < law.wide; c++) {
                if (gateHindered(c) == 0) {
                    all.add(new Act(-2, c, 0));
                }
            }
            return all;
        }

        boolean isOver() {
            return isClosed() || acts().isEmpty();
        }

        int payer() {
            if (isClosed()) {
                return (day - 1) % 2;
            }
            return acts().isEmpty() ? turn() : -1;
        }

        int wrongStone(int s, int c, int w) {
            if (s < 0 || s >= law.stones.size() || c < 0 || c >= law.wide) {
                return 1;
            }
            Stone stone = law.stones.get(s);
            boolean wideRight = stone.kind.equals("cut") ? 1 <= w && w <= stone.wide : w == stone.wide;
            boolean sameTwin = stone.kind.equals("twin") && 2 * c == law.wide - 1;
            return wideRight && !sameTwin ? 0 : 1;
        }

        List<Integer> columnsOf(int s, int c, int w) {
            List<Integer> list = new ArrayList<>();
            if (law.stones.get(s).kind.equals("twin")) {
                list.add(c);
                list.add(law.wide - 1 - c);
            } else {
                for (int i = 0; i < w; i++) {
                    list.add(c + i);
                }
            }
            return list;
        }

        int hindered(int s, int c, int w) {
            List<Integer> on = columnsOf(s, c, w);
            for (int x : on) {
                if (x >= law.wide) {
                    return 3;
                }
            }
            for (int x : on) {
                if (gate[x] >= 0) {
                    return 4;
                }
            }
            if (!stands(law.stones.get(s).kind, on)) {
                return 5;
            }
            for (int h : heightsAfter(law.stones.get(s).kind, on)) {
                if (h > law.high) {
                    return 6;
                }
            }
            return 0;
        }

        boolean stands(String kind, List<Integer> on) {
            int first = height[on.get(0)];
            switch (kind) {
                case "twin":
                    return true;
                case "round":
                    for (int x : new int[] {on.get(0) - 1, on.get(0) + 1}) {
                        if (x >= 0 && x < law.wide && gate[x] < 0 && !(height[x] > first)) {
                            return false;
                        }
                    }
                    return true;
                case "bridge":
                    if (height[on.get(on.size() - 1)] != first) {
                        return false;
                    }
                    for (int i = 1; i + 1 < on.size(); i++) {
                        if (height[on.get(i)] > first) {
                            return false;
                        }
                    }
                    return true;
                default:
                    return on.stream().allMatch(x -> height[x] == first);
            }
        }

        int[] heightsAfter(String kind, List<Integer> on) {
            int first = height[on.get(0)];
            return on.stream().mapToInt(x -> kind.equals("twin") ? height[x] + 1 : first + 1).toArray();
        }

        int gateHindered(int c) {
            if (gatesLeft(turn()) == 0) {
                return 3;
            }
            if (gate[c] >= 0) {
                return 4;
            }
            return height[c] > 0 ? 5 : 0;
        }

        Position with(Act act) {
            Position next = new Position(this);
            if (act.stone == -2) {
                next.gate[act.column] = turn();
            } else {
                Stone stone = law.stones.get(act.stone);
                List<Integer> on = columnsOf(act.stone, act.column, act.wide);
                int[] raised = heightsAfter(stone.kind, on);
                int owner = stone.kind.equals("lent") ? 1 - turn() : turn();
                int holes = 0;
                for (int i = 0; i < on.size(); i++) {
                    int x = on.get(i);
                    int gap = raised[i] - 1 - height[x];
                    holes += gap;
                    next.holesIn[x] += gap;
                    next.height[x] = raised[i];
                    next.owner[x] = owner;
                }
                next.holesOf[owner] += holes;
                next.bill += law.fine.of(on.size(), height[act.column], holes, day);
            }
            next.day++;
            return next;
        }

        String face() {
            StringBuilder text = new StringBuilder();
            for (int c = 0; c < law.wide; c++) {
                text.append(gate[c] >= 0 ? "G" : height[c]).append(' ');
            }
            return text.toString();
        }

        String key() {
            return Arrays.toString(height) + Arrays.toString(gate) + turn();
        }
    }

    record Mark(Law law, List<Position> line) { }

    private String tape = "";
    private Law law = new Law();
    private List<Position> line = new ArrayList<>(List.of(new Position(law)));
    private final Mark[] marks = new Mark[4];
    private final Map<String, int[]> solved = new HashMap<>();
    private Law solvedLaw = null;

    static Reference told(String text) {
        Reference reference = new Reference();
        reference.tape = text;
        if (reference.truce() != 0) {
            throw new IllegalStateException("fault in " + text);
        }
        return reference;
    }

    Position now() {
        return line.get(line.size() - 1);
    }

    int feed(long a, long b, long c) {
        for (long part : new long[] {a, b, c}) {
            for (int i = 7; i >= 0; i--) {
                int sign = (int) ((part >> (8 * i)) & 0xff);
                if ((sign == 10 || sign > 31 && sign < 127) && tape.length() < 1000) {
                    tape += (char) sign;
                }
            }
        }
        return tape.length();
    }

    int truce() {
        String text = tape;
        tape = "";
        try {
            law = new Parser(text).law();
            line = new ArrayList<>(List.of(new Position(law)));
            return 0;
        } catch (Fault fault) {
            return fault.number;
        }
    }

    int stone(int stone, int what) {
        if (stone < 0 || stone >= law.stones.size() || what < 0 || what > 1) {
            return -1;
        }
        Stone told = law.stones.get(stone);
        return what == 0 ? KINDS.indexOf(told.kind) : told.wide;
    }

    int fits(int stone, int column, int wide) {
        if (now().wrongStone(stone, column, wide) != 0) {
            return 1;
        }
        return now().isOver() ? 2 : now().hindered(stone, column, wide);
    }

    int set(int stone, int column, int wide) {
        int why = fits(stone, column, wide);
        if (why == 0) {
            line.add(now().with(new Act(stone, column, wide)));
        }
        return why;
    }

    int leave(int column) {
        if (column < 0 || column >= law.wide) {
            return 1;
        }
        if (now().isOver()) {
            return 2;
        }
        int why = now().gateHindered(column);
        if (why == 0) {
            line.add(now().with(new Act(-2, column, 0)));
        }
        return why;
    }

    boolean undo() {
        if (line.size() == 1) {
            return false;
        }
        line.remove(line.size() - 1);
        return true;
    }

    int column(int column, int what) {
        if (column < 0 || column >= law.wide || what < 0 || what > 3) {
            return -1;
        }
        Position p = now();
        return new int[] {p.height[column], p.gate[column], p.holesIn[column], p.owner[column]}[what];
    }

    /** -99 stands for NoSuchElementException. */
    int state(int what) {
        Position p = now();
        if (what < 0 || what > 9) {
            return -99;
        }
        return new int[] {p.day, p.isOver() ? -1 : p.turn(), p.isClosed() ? 1 : 0, p.payer(), p.bill,
            p.holesOf[0], p.holesOf[1], p.gatesLeft(0), p.gatesLeft(1), p.acts().size()}[what];
    }

    int act(int i, int what) {
        List<Act> acts = now().acts();
        if (i < 0 || i >= acts.size() || what < 0 || what > 2) {
            return -1;
        }
        Act act = acts.get(i);
        return new int[] {act.stone, act.column, act.wide}[what];
    }

    /** {payer, days} of best play. */
    private int[] solve(Position p) {
        if (solvedLaw != law) {
            solved.clear();
            solvedLaw = law;
        }
        int[] found = solved.get(p.key());
        if (found != null) {
            return found;
        }
        int[] answer;
        if (p.isOver()) {
            answer = new int[] {p.payer(), 0};
        } else {
            TreeSet<Integer> won = new TreeSet<>();
            TreeSet<Integer> lost = new TreeSet<>();
            for (Act act : p.acts()) {
                int[] behind = solve(p.with(act));
                (behind[0] == p.turn() ? lost : won).add(behind[1] + 1);
            }
            answer = won.isEmpty() ? new int[] {p.turn(), lost.last()} : new int[] {1 - p.turn(), won.first()};
        }
        solved.put(p.key(), answer);
        return answer;
    }

    int pays() {
        return law.isSmall() ? solve(now())[0] : -1;
    }

    int days() {
        return law.isSmall() ? solve(now())[1] : -1;
    }

    int best() {
        if (!law.isSmall() || now().isOver()) {
            return -1;
        }
        int[] due = solve(now());
        List<Act> acts = now().acts();
        for (int i = 0; i < acts.size(); i++) {
            int[] behind = solve(now().with(acts.get(i)));
            if (behind[0] == due[0] && behind[1] + 1 == due[1]) {
                return i;
            }
        }
        throw new IllegalStateException("no best act");
    }

    int holds(int i) {
        List<Act> acts = now().acts();
        return !law.isSmall() || i < 0 || i >= acts.size() ? -1 : 1 + solve(now().with(acts.get(i)))[1];
    }

    int mason(int town, int rule) {
        if (!law.isSmall() || town < 0 || town > 1 || rule < 0 || rule > 2) {
            return -1;
        }
        return masonPays(now(), town, rule, new HashMap<>()) ? town : 1 - town;
    }

    private boolean masonPays(Position p, int town, int rule, Map<String, Boolean> known) {
        if (p.isOver()) {
            return p.payer() == town;
        }
        if (!known.containsKey(p.key())) {
            List<Act> acts = p.acts();
            if (p.turn() == town) {
                int low = acts.stream().mapToInt(a -> p.height[a.column]).min().getAsInt();
                Act lowest = acts.stream().filter(a -> p.height[a.column] == low).findFirst().get();
                Act done = rule == 0 ? acts.get(0) : rule == 1 ? acts.get(acts.size() - 1) : lowest;
                known.put(p.key(), masonPays(p.with(done), town, rule, known));
            } else {
                boolean can = false;
                for (Act act : acts) {
                    can |= masonPays(p.with(act), town, rule, known);
                }
                known.put(p.key(), can);
            }
        }
        return known.get(p.key());
    }

    private static Map<String, BigInteger> spread(Position from, int days, Map<String, Position> places) {
        Map<String, BigInteger> layer = new HashMap<>();
        layer.put(from.key(), BigInteger.ONE);
        places.put(from.key(), from);
        for (int d = 0; d < days; d++) {
            Map<String, BigInteger> next = new HashMap<>();
            for (Map.Entry<String, BigInteger> entry : layer.entrySet()) {
                Position p = places.get(entry.getKey());
                for (Act act : p.acts()) {
                    Position q = p.with(act);
                    places.putIfAbsent(q.key(), q);
                    next.merge(q.key(), entry.getValue(), BigInteger::add);
                }
            }
            layer = next;
        }
        return layer;
    }

    int reached(int days) {
        if (!law.isSmall() || days < 0 || days > 30) {
            return -1;
        }
        Map<String, Position> places = new HashMap<>();
        Set<String> faces = new HashSet<>();
        for (String key : spread(now(), days, places).keySet()) {
            faces.add(places.get(key).face());
        }
        return faces.size();
    }

    int histories(int days) {
        if (!law.isSmall() || days < 0 || days > 30) {
            return -1;
        }
        Map<String, Position> places = new HashMap<>();
        BigInteger sum = BigInteger.ZERO;
        for (Map.Entry<String, BigInteger> entry : spread(line.get(0), days, places).entrySet()) {
            if (places.get(entry.getKey()).face().equals(now().face())) {
                sum = sum.add(entry.getValue());
            }
        }
        return sum.mod(BigInteger.valueOf(1_000_000_007L)).intValue();
    }

    int lots(int seed, int plays, int what) {
        if (seed < 0 || seed > 9999 || plays < 1 || plays > 100 || what < 0 || what > 1) {
            return -1;
        }
        BigInteger g = BigInteger.valueOf(seed);
        int[] sums = new int[2];
        for (int i = 0; i < plays; i++) {
            Position p = now();
            for (List<Act> acts = p.acts(); !acts.isEmpty(); acts = p.acts()) {
                g = g.multiply(BigInteger.valueOf(1103515245L)).add(BigInteger.valueOf(12345L))
                    .mod(BigInteger.valueOf(2147483648L));
                p = p.with(acts.get((g.intValue() / 65536) % acts.size()));
                sums[1]++;
            }
            sums[0] += p.payer() == 0 ? 1 : 0;
        }
        return sums[what];
    }

    boolean mark(int mark, boolean back) {
        if (mark < 0 || mark > 3 || back && marks[mark] == null) {
            return false;
        }
        if (back) {
            law = marks[mark].law;
            line = new ArrayList<>(marks[mark].line);
        } else {
            marks[mark] = new Mark(law, new ArrayList<>(line));
        }
        return true;
    }

    int count(int what) {
        if (what < 0 || what > 5) {
            return -1;
        }
        return new int[] {law.wide, law.high, law.stones.size(), law.isSmall() ? 1 : 0,
            line.size() - 1, tape.length()}[what];
    }

    /** Reads by a table of what may come next, and reckons E by two stacks, not by descent. */
    static final class Parser {
        private final List<Token> tokens = new ArrayList<>();
        private int at = 0;

        Parser(String text) {
            int i = 0;
            while (i < text.length()) {
                char c = text.charAt(i);
                int end = i + 1;
                if (c == ' ' || c == '\n') {
                    i++;
                    continue;
                }
                String run = Character.isLowerCase(c) ? "[a-z]" : Character.isDigit(c) ? "[0-9]" : "";
                while (!run.isEmpty() && end < text.length() && text.substring(end, end + 1).matches(run)) {
                    end++;
                }
                tokens.add(new Token(text.substring(i, end), i));
                i = end;
            }
            tokens.add(new Token("", text.length()));
        }

        private Token peek() {
            return tokens.get(at);
        }

        private Token word(String word) {
            Token token = tokens.get(at);
            if (!token.text.equals(word)) {
                throw new Fault(1, token.place);
            }
            at++;
            return token;
        }

        private int number(int least, int most) {
            Token token = tokens.get(at);
            if (!token.isNumber()) {
                throw new Fault(1, token.place);
            }
            int value = Integer.parseInt(token.text);
            if (value < least || value > most) {
                throw new Fault(4, token.place);
            }
            at++;
            return value;
        }

        Law law() {
            Law law = new Law();
            word("wall");
            law.wide = number(2, 10);
            law.high = number(1, 6);
            word(";");
            Set<String> once = new HashSet<>();
            while (!peek().text.isEmpty()) {
                Token first = tokens.get(at++);
                if (!first.is("stone", "gates", "fine")) {
                    throw new Fault(1, first.place);
                }
                if (!first.is("stone") && !once.add(first.text)) {
                    throw new Fault(3, first.place);
                }
                if (first.is("stone")) {
                    stoneLine(law, first);
                } else if (first.is("gates")) {
                    law.gates = number(0, 1);
                    word(";");
                } else {
                    law.fine = expression();
                }
            }
            return law;
        }

        private void stoneLine(Law law, Token first) {
            if (law.stones.size() == 6) {
                throw new Fault(5, first.place);
            }
            Token name = tokens.get(at++);
            if (!name.isWord() || KEPT.contains(name.text)) {
                throw new Fault(1, name.place);
            }
            if (law.stones.stream().anyMatch(s -> s.name.equals(name.text))) {
                throw new Fault(3, name.place);
            }
            Token kind = tokens.get(at++);
            if (!KINDS.contains(kind.text)) {
                throw new Fault(1, kind.place);
            }
            int wide = number(kind.is("bridge") ? 2 : 1, kind.is("round", "twin") ? 1 : 4);
            word(";");
            law.stones.add(new Stone(name.text, kind.text, wide));
        }

        private static int strength(String join) {
            switch (join) {
                case "not":
                    return 5;
                case "*":
                    return 4;
                case "+":
                case "-":
                    return 3;
                case "<":
                case "=":
                    return 2;
                case "and":
                case "or":
                    return 1;
                default:
                    return 0;
            }
        }

        private static void reduce(Deque<Fine> values, String join) {
            Fine b = values.pop();
            if (join.equals("not")) {
                values.push((w, l, h, d) -> b.of(w, l, h, d) == 0 ? 1 : 0);
                return;
            }
            Fine a = values.pop();
            values.push((w, l, h, d) -> {
                int x = a.of(w, l, h, d);
                int y = b.of(w, l, h, d);
                switch (join) {
                    case "*":
                        return x * y;
                    case "+":
                        return x + y;
                    case "-":
                        return x - y;
                    case "<":
                        return x < y ? 1 : 0;
                    case "=":
                        return x == y ? 1 : 0;
                    case "and":
                        return x != 0 && y != 0 ? 1 : 0;
                    default:
                        return x != 0 || y != 0 ? 1 : 0;
                }
            });
        }

        private Fine expression() {
            Deque<Fine> values = new ArrayDeque<>();
            Deque<String> joins = new ArrayDeque<>();
            boolean wantsPart = true;
            while (true) {
                Token token = tokens.get(at++);
                // What stands open around this token: parentheses, and the nots right before it.
                long around = joins.stream().filter(j -> j.equals("(") || j.equals("not")).count();
                if (wantsPart) {
                    boolean fact = token.is("wide", "level", "holes", "day");
                    if (!fact && !token.isNumber() && !token.is("not", "(")) {
                        throw new Fault(1, token.place);
                    }
                    if (around >= 5) {
                        throw new Fault(5, token.place);
                    }
                    if (token.is("not", "(")) {
                        joins.push(token.text);
                    } else {
                        values.push(leaf(token));
                        wantsPart = false;
                        closeNots(values, joins);
                    }
                    continue;
                }
                if (token.is(";") || token.is(")")) {
                    boolean open = joins.contains("(");
                    if (token.is(";") == open) {
                        throw new Fault(1, token.place);
                    }
                    while (!joins.isEmpty() && !joins.peek().equals("(")) {
                        reduce(values, joins.pop());
                    }
                    if (!open) {
                        return values.pop();
                    }
                    joins.pop();
                    closeNots(values, joins);
                    continue;
                }
                int force = strength(token.text);
                if (force == 0 || token.is("not")) {
                    throw new Fault(1, token.place);
                }
                while (!joins.isEmpty() && strength(joins.peek()) >= force) {
                    if (force == 2 && strength(joins.peek()) == 2) {
                        throw new Fault(1, token.place);
                    }
                    reduce(values, joins.pop());
                }
                joins.push(token.text);
                wantsPart = true;
            }
        }

        private static void closeNots(Deque<Fine> values, Deque<String> joins) {
            while (!joins.isEmpty() && joins.peek().equals("not")) {
                reduce(values, joins.pop());
            }
        }

        private static Fine leaf(Token token) {
            switch (token.text) {
                case "wide":
                    return (w, l, h, d) -> w;
                case "level":
                    return (w, l, h, d) -> l;
                case "holes":
                    return (w, l, h, d) -> h;
                case "day":
                    return (w, l, h, d) -> d;
                default:
                    int value = Integer.parseInt(token.text);
                    return (w, l, h, d) -> value;
            }
        }
    }
}
