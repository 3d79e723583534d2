import java.util.ArrayDeque;
import java.util.ArrayList;
import java.util.Arrays;
import java.util.Deque;
import java.util.HashMap;
import java.util.HashSet;
import java.util.List;
import java.util.Map;
import java.util.NoSuchElementException;
import java.util.Set;
import java.util.function.BiPredicate;
import java.util.function.ToIntBiFunction;

/**
 * The document told a second time, with other means than the program: sets, maps, searches that try all.
 * RandomTest holds the program against it.
 */
final class Model {
    static final int NONE = -1;
    private static final int FAR_OFF = 1 << 28;

    static final class Fence {
        int age;
        int high;
        boolean gate;
        boolean string;

        Fence(int age, int high, boolean gate, boolean string) {
            this.age = age;
            this.high = high;
            this.gate = gate;
            this.string = string;
        }
    }

    static final class Family {
        int home;
        int climbs;
        int eyes;
        int sore;

        Family(int home, int climbs, int eyes, int sore) {
            this.home = home;
            this.climbs = climbs;
            this.eyes = eyes;
            this.sore = sore;
        }
    }

    record LawLine(String kind, int n, BiPredicate<State, Integer> condition) { }

    static final class State {
        final Map<Integer, Fence> fences = new HashMap<>();
        final List<Family> families = new ArrayList<>();
        int year;
        int quarrel;
        int seed = 1;
        int texts;
        List<LawLine> law;
        final Deque<int[]> log = new ArrayDeque<>();

        State copy() {
            State s = new State();
            fences.forEach((b, f) -> s.fences.put(b, new Fence(f.age, f.high, f.gate, f.string)));
            families.forEach(f -> s.families.add(new Family(f.home, f.climbs, f.eyes, f.sore)));
            s.year = year;
            s.quarrel = quarrel;
            s.seed = seed;
            s.texts = texts;
            s.law = law;
            s.log.addAll(log);
            return s;
        }

        boolean open(int border, int height) {
            Fence f = fences.get(border);
            return f == null || f.gate || f.high <= height;
        }

        int sum(String kind, int border) {
            int sum = 0;
            for (LawLine line : law) {
                if (line.kind.equals(kind) && line.condition.test(this, border)) {
                    sum += line.n;
                }
            }
            return sum;
        }

        int grows(int border) {
            if (fences.get(border).string) {
                return 0;
            }
            return law == null ? 1 : sum("grow", border) - sum("sink", border);
        }

        int sores(int border) {
            return law == null ? 0 : sum("sore", border);
        }

        void logRow(int border, int kind, int family, int high) {
            log.addFirst(new int[] {year, border, kind, family, high});
            if (log.size() > 60) {
                log.removeLast();
            }
        }

        int draw() {
            seed = (int) (1103515245L * seed + 12345L);
            return (seed & 0x7FFFFFFF) >> 16;
        }

        int pass(boolean draws) {
            for (int b = 0; b < 60; b++) {
                Fence f = fences.get(b);
                if (f != null) {
                    f.high = Math.max(0, Math.min(999, f.high + grows(b)));
                    f.age = Math.min(999, f.age + 1);
                }
            }
            for (Family f : families) {
                int more = 0;
                for (int b = 0; b < 60; b++) {
                    if (fences.containsKey(b) && (CELL_A[b] == f.home || CELL_B[b] == f.home)) {
                        more += sores(b);
                    }
                }
                f.sore = Math.min(99, f.sore + more);
            }
            int put = 0;
            for (int i = 0; draws && i < families.size(); i++) {
                Family f = families.get(i);
                if (draw() % 100 < quarrel + f.sore) {
                    int[] dx = {-1, 1, 0, 0};
                    int[] dy = {0, 0, -1, 1};
                    int to = draw() % 4;
                    int x = f.home % 6 + dx[to];
                    int y = f.home / 6 + dy[to];
                    if (x < 0 || x > 5 || y < 0 || y > 5) {
                        continue;
                    }
                    int b = borderBetween(f.home, x + 6 * y);
                    if (!fences.containsKey(b)) {
                        fences.put(b, new Fence(0, 0, false, false));
                        logRow(b, 0, i, 0);
                        put++;
                    }
                }
            }
            year = Math.min(9999, year + 1);
            return put;
        }
    }

    static final int[] CELL_A = new int[60];
    static final int[] CELL_B = new int[60];
    static final int[] CORNER_A = new int[60];
    static final int[] CORNER_B = new int[60];

    static {
        for (int y = 0; y < 6; y++) {
            for (int x = 0; x < 5; x++) {
                CELL_A[5 * y + x] = x + 6 * y;
                CELL_B[5 * y + x] = x + 1 + 6 * y;
                CORNER_A[5 * y + x] = x + 1 + 7 * y;
                CORNER_B[5 * y + x] = x + 1 + 7 * (y + 1);
            }
        }
        for (int y = 0; y < 5; y++) {
            for (int x = 0; x < 6; x++) {
                CELL_A[30 + 6 * y + x] = x + 6 * y;
                CELL_B[30 + 6 * y + x] = x + 6 * (y + 1);
                CORNER_A[30 + 6 * y + x] = x + 7 * (y + 1);
                CORNER_B[30 + 6 * y + x] = x + 1 + 7 * (y + 1);
            }
        }
    }

    static int borderBetween(int cell, int other) {
        for (int b = 0; b < 60; b++) {
            if (CELL_A[b] == cell && CELL_B[b] == other || CELL_A[b] == other && CELL_B[b] == cell) {
                return b;
            }
        }
        return NONE;
    }

    // ---- what an object holds ----

    private State s = new State();
    private State image;
    private final Deque<State> acts = new ArrayDeque<>();
    private final List<Integer> tape = new ArrayList<>();
    private int fault = NONE;

    private List<Integer> useTape() {
        List<Integer> bytes = new ArrayList<>(tape);
        tape.clear();
        return bytes;
    }

    private void act() {
        acts.addFirst(s.copy());
        if (acts.size() > 12) {
            acts.removeLast();
        }
    }

    // ---- texts ----

    static final class Wrong extends Exception {
        private static final long serialVersionUID = 1L;
        final int at;

        Wrong(int at) {
            this.at = at;
        }
    }

    /** Reads sign by sign, without things split ahead. */
    static final class Reader {
        final List<Integer> bytes;
        int at = 0;

        Reader(List<Integer> bytes) {
            this.bytes = bytes;
        }

        void blanks() {
            while (at < bytes.size() && bytes.get(at) == 32) {
                at++;
            }
        }

        boolean over() {
            blanks();
            return at == bytes.size();
        }

        /** The next thing as a text, "" at the end; nothing is taken. */
        String peek() {
            blanks();
            StringBuilder b = new StringBuilder();
            for (int i = at; i < bytes.size(); i++) {
                char c = (char) (int) bytes.get(i);
                boolean letter = c >= 'a' && c <= 'z';
                boolean digit = c >= '0' && c <= '9';
                if (b.length() == 0) {
                    b.append(c);
                    if (!letter && !digit) {
                        break;
                    }
                } else {
                    boolean begunByLetter = b.charAt(0) >= 'a' && b.charAt(0) <= 'z';
                    if (begunByLetter ? !letter : !digit) {
                        break;
                    }
                    b.append(c);
                }
            }
            return b.toString();
        }

        boolean eat(String thing) {
            if (peek().equals(thing)) {
                at += thing.length();
                return true;
            }
            return false;
        }

        void need(String thing) throws Wrong {
            if (!eat(thing)) {
                throw new Wrong(at);
            }
        }

        boolean isNumber() {
            return peek().matches("[0-9]+");
        }

        int number(int most) throws Wrong {
            String thing = peek();
            if (!thing.matches("[0-9]{1,3}") || Integer.parseInt(thing) > most) {
                throw new Wrong(at);
            }
            at += thing.length();
            return Integer.parseInt(thing);
        }
    }

    private static void readCounty(Reader r, State s) throws Wrong {
        if (r.over()) {
            return;
        }
        int lines = 0;
        do {
            r.blanks();
            lines++;
            if (lines > 14) {
                throw new Wrong(r.at);
            }
            if (r.peek().equals("family") && s.families.size() == 6) {
                throw new Wrong(r.at);
            }
            readCountyLine(r, s);
        } while (r.eat(";"));
        if (!r.over()) {
            throw new Wrong(r.at);
        }
    }

    private static void readCountyLine(Reader r, State s) throws Wrong {
        if (r.eat("fence")) {
            int cell = r.number(35);
            r.blanks();
            int at = r.at;
            int border = borderBetween(cell, r.number(35));
            if (border == NONE) {
                throw new Wrong(at);
            }
            int age = r.eat("age") ? r.number(999) : 0;
            int high = r.eat("high") ? r.number(999) : 0;
            boolean gate = r.eat("gate");
            boolean string = r.eat("string");
            s.fences.put(border, new Fence(age, high, gate, string));
        } else if (r.eat("row")) {
            int y = r.number(4);
            r.need("high");
            int high = r.number(999);
            for (int x = 0; x < 6; x++) {
                s.fences.put(borderBetween(x + 6 * y, x + 6 * y + 6), new Fence(0, high, false, false));
            }
        } else if (r.eat("family")) {
            r.need("at");
            int home = r.number(35);
            r.need("climbs");
            int climbs = r.number(999);
            int eyes = r.eat("eyes") ? r.number(999) : 60;
            s.families.add(new Family(home, climbs, eyes, 0));
        } else if (r.eat("quarrel")) {
            s.quarrel = r.number(100);
        } else if (r.eat("year")) {
            s.year = r.number(999);
        } else {
            throw new Wrong(r.at);
        }
    }

    private static List<LawLine> readLaw(Reader r) throws Wrong {
        List<LawLine> lines = new ArrayList<>();
        if (r.over()) {
            return lines;
        }
        do {
            String kind = r.peek();
            if (lines.size() == 12 || !kind.matches("grow|sink|sore")) {
                throw new Wrong(r.at);
            }
            r.need(kind);
            int n = r.number(60);
            lines.add(new LawLine(kind, n, r.eat("if") ? any(r, 0) : (s, b) -> true));
        } while (r.eat(";"));
        if (!r.over()) {
            throw new Wrong(r.at);
        }
        return lines;
    }

    private static BiPredicate<State, Integer> any(Reader r, int deep) throws Wrong {
        BiPredicate<State, Integer> c = every(r, deep);
        while (r.eat("or")) {
            c = c.or(every(r, deep));
        }
        return c;
    }

    private static BiPredicate<State, Integer> every(Reader r, int deep) throws Wrong {
        BiPredicate<State, Integer> c = atom(r, deep);
        while (r.eat("and")) {
            c = c.and(atom(r, deep));
        }
        return c;
    }

    private static BiPredicate<State, Integer> atom(Reader r, int deep) throws Wrong {
        String thing = r.peek();
        if ((thing.equals("(") || thing.equals("not")) && deep == 6) {
            throw new Wrong(r.at);
        }
        if (r.eat("not")) {
            return atom(r, deep + 1).negate();
        }
        if (r.eat("(")) {
            BiPredicate<State, Integer> c = any(r, deep + 1);
            r.need(")");
            return c;
        }
        if (r.eat("gate")) {
            return (s, b) -> s.fences.get(b).gate;
        }
        if (r.eat("string")) {
            return (s, b) -> s.fences.get(b).string;
        }
        if (r.eat("across")) {
            return (s, b) -> b >= 30;
        }
        ToIntBiFunction<State, Integer> first = sum(r);
        boolean less = r.eat("<");
        if (!less) {
            r.need(">");
        }
        ToIntBiFunction<State, Integer> second = sum(r);
        return less
                ? (s, b) -> first.applyAsInt(s, b) < second.applyAsInt(s, b)
                : (s, b) -> first.applyAsInt(s, b) > second.applyAsInt(s, b);
    }

    private static ToIntBiFunction<State, Integer> sum(Reader r) throws Wrong {
        ToIntBiFunction<State, Integer> sum = part(r);
        while (r.eat("+")) {
            ToIntBiFunction<State, Integer> one = sum;
            ToIntBiFunction<State, Integer> other = part(r);
            sum = (s, b) -> one.applyAsInt(s, b) + other.applyAsInt(s, b);
        }
        return sum;
    }

    private static ToIntBiFunction<State, Integer> part(Reader r) throws Wrong {
        if (r.isNumber()) {
            int n = r.number(999);
            return (s, b) -> n;
        }
        String thing = r.peek();
        ToIntBiFunction<State, Integer> part = switch (thing) {
            case "border" -> (s, b) -> b;
            case "age" -> (s, b) -> s.fences.get(b).age;
            case "high" -> (s, b) -> s.fences.get(b).high;
            case "x" -> (s, b) -> Math.min(CELL_A[b], CELL_B[b]) % 6;
            case "y" -> (s, b) -> Math.min(CELL_A[b], CELL_B[b]) / 6;
            case "year" -> (s, b) -> s.year % 100;
            default -> null;
        };
        if (part == null) {
            throw new Wrong(r.at);
        }
        r.need(thing);
        return part;
    }

    // ---- the face ----

    int feed(int a, int b, int c, int d, int e) {
        if (tape.size() + 20 > 400) {
            return NONE;
        }
        for (int n : new int[] {a, b, c, d, e}) {
            tape.add(n >>> 24);
            tape.add(n >>> 16 & 255);
            tape.add(n >>> 8 & 255);
            tape.add(n & 255);
        }
        return tape.size();
    }

    boolean end(int n) {
        if (n < 0 || n > tape.size()) {
            return false;
        }
        tape.subList(n, tape.size()).clear();
        return true;
    }

    int county() {
        State next = s.copy();
        try {
            fault = NONE;
            readCounty(new Reader(useTape()), next);
        } catch (Wrong w) {
            fault = w.at;
            throw new IllegalArgumentException();
        }
        if (s.texts == 12) {
            throw new UnsupportedOperationException();
        }
        s = next;
        s.texts++;
        acts.clear();
        return s.texts;
    }

    int law() {
        try {
            fault = NONE;
            s.law = readLaw(new Reader(useTape()));
        } catch (Wrong w) {
            fault = w.at;
            throw new IllegalArgumentException();
        }
        acts.clear();
        return s.law.size();
    }

    int fault() {
        return fault;
    }

    private static void bounds(boolean holds) {
        if (!holds) {
            throw new IndexOutOfBoundsException();
        }
    }

    private static void argument(boolean holds) {
        if (!holds) {
            throw new IllegalArgumentException();
        }
    }

    private static void state(boolean holds) {
        if (!holds) {
            throw new IllegalStateException();
        }
    }

    private static void isBorder(int b) {
        bounds(b >= 0 && b < 60);
    }

    private static void isCell(int c) {
        bounds(c >= 0 && c < 36);
    }

    private void isFamily(int f) {
        bounds(f >= 0 && f < s.families.size());
    }

    private void areTwo(int f, int g) {
        isFamily(f);
        isFamily(g);
        argument(f != g);
    }

    private static void isHeight(int h) {
        argument(h >= 0 && h <= 999);
    }

    int border(int border, int what) {
        isBorder(border);
        Fence f = s.fences.get(border);
        return switch (what) {
            case 0 -> f == null ? 0 : 1;
            case 1 -> f == null ? 0 : f.age;
            case 2 -> f == null ? 0 : f.high;
            case 3 -> f != null && f.gate ? 1 : 0;
            case 4 -> f != null && f.string ? 1 : 0;
            case 5 -> f == null ? 0 : s.grows(border);
            case 6 -> f == null ? 0 : s.sores(border);
            default -> throw new NoSuchElementException();
        };
    }

    int between(int cell, int other) {
        isCell(cell);
        isCell(other);
        return borderBetween(cell, other);
    }

    int family(int family, int what) {
        isFamily(family);
        Family f = s.families.get(family);
        int ways = flood(s, f.home, f.climbs, Set.of()).size();
        return switch (what) {
            case 0 -> f.home;
            case 1 -> f.climbs;
            case 2 -> f.eyes;
            case 3 -> f.sore;
            case 4 -> ways;
            case 5 -> (int) Math.floor(100.0 * ways / 36.0);
            case 6 -> s.fences.entrySet().stream()
                    .filter(e -> CELL_A[e.getKey()] == f.home || CELL_B[e.getKey()] == f.home)
                    .mapToInt(e -> e.getValue().high).sum();
            case 7 -> share(family);
            case 8 -> gives(family, ways);
            default -> throw new NoSuchElementException();
        };
    }

    private int share(int family) {
        int cells = 0;
        for (int cell = 0; cell < 36; cell++) {
            int best = -1;
            int least = FAR_OFF;
            for (int f = 0; f < s.families.size(); f++) {
                int home = s.families.get(f).home;
                int apart = Math.abs(home % 6 - cell % 6) + Math.abs(home / 6 - cell / 6);
                if (apart < least) {
                    least = apart;
                    best = f;
                }
            }
            if (best == family) {
                cells++;
            }
        }
        return cells;
    }

    private int gives(int family, int ways) {
        Family f = s.families.get(family);
        int best = NONE;
        int most = ways;
        for (int b = 0; b < 60; b++) {
            if (!s.open(b, f.climbs)) {
                State t = s.copy();
                t.fences.remove(b);
                int then = flood(t, f.home, f.climbs, Set.of()).size();
                if (then > most) {
                    most = then;
                    best = b;
                }
            }
        }
        return best;
    }

    /** All cells to which one comes, without the borders that are shut. */
    private static Set<Integer> flood(State s, int from, int height, Set<Integer> shut) {
        Set<Integer> found = new HashSet<>(Set.of(from));
        Deque<Integer> open = new ArrayDeque<>(found);
        while (!open.isEmpty()) {
            int cell = open.pop();
            for (int b = 0; b < 60; b++) {
                if (shut.contains(b) || !s.open(b, height)) {
                    continue;
                }
                int next = CELL_A[b] == cell ? CELL_B[b] : CELL_B[b] == cell ? CELL_A[b] : NONE;
                if (next != NONE && found.add(next)) {
                    open.push(next);
                }
            }
        }
        return found;
    }

    int years(int n) {
        argument(n >= 1 && n <= 100);
        act();
        int put = 0;
        for (int i = 0; i < n; i++) {
            put += s.pass(true);
        }
        return put;
    }

    int raise(int border) {
        isBorder(border);
        state(!s.fences.containsKey(border));
        act();
        s.fences.put(border, new Fence(0, 0, false, false));
        s.logRow(border, 1, NONE, 0);
        return s.fences.size();
    }

    int pull(int border) {
        isBorder(border);
        state(s.fences.containsKey(border));
        act();
        int high = s.fences.remove(border).high;
        s.logRow(border, 2, NONE, high);
        return high;
    }

    boolean gate(int border, boolean is) {
        isBorder(border);
        state(s.fences.containsKey(border));
        act();
        boolean was = s.fences.get(border).gate;
        s.fences.get(border).gate = is;
        return was != is;
    }

    boolean string(int border, boolean is) {
        isBorder(border);
        state(s.fences.containsKey(border));
        act();
        boolean was = s.fences.get(border).string;
        s.fences.get(border).string = is;
        return was != is;
    }

    int again(int border, int high) {
        isBorder(border);
        isHeight(high);
        state(s.fences.containsKey(border) && s.fences.get(border).high >= high);
        act();
        Fence f = s.fences.get(border);
        int was = f.high;
        s.logRow(border, 3, NONE, was);
        f.age = 0;
        f.high = high;
        return was;
    }

    int forgive(int family) {
        isFamily(family);
        act();
        int was = s.families.get(family).sore;
        s.families.get(family).sore = 0;
        return was;
    }

    int move(int family, int cell) {
        isFamily(family);
        isCell(cell);
        act();
        int was = s.families.get(family).home;
        s.families.get(family).home = cell;
        return was;
    }

    int learn(int family, int n) {
        isFamily(family);
        isHeight(n);
        act();
        int was = s.families.get(family).climbs;
        s.families.get(family).climbs = n;
        return was;
    }

    boolean open(int border, int height) {
        isBorder(border);
        isHeight(height);
        return s.open(border, height);
    }

    /** Least costs between all nodes, by Floyd and Warshall; a cost below 0 is a border that is shut. */
    private static int[][] apart(int nodes, int[] a, int[] b, int[] cost) {
        int[][] d = new int[nodes][nodes];
        for (int i = 0; i < nodes; i++) {
            Arrays.fill(d[i], FAR_OFF);
            d[i][i] = 0;
        }
        for (int i = 0; i < 60; i++) {
            if (cost[i] >= 0) {
                d[a[i]][b[i]] = cost[i];
                d[b[i]][a[i]] = cost[i];
            }
        }
        for (int k = 0; k < nodes; k++) {
            for (int i = 0; i < nodes; i++) {
                for (int j = 0; j < nodes; j++) {
                    d[i][j] = Math.min(d[i][j], d[i][k] + d[k][j]);
                }
            }
        }
        return d;
    }

    private int[] farFrom(int family) {
        Family f = s.families.get(family);
        int[] cost = new int[60];
        for (int b = 0; b < 60; b++) {
            Fence fence = s.fences.get(b);
            cost[b] = !s.open(b, f.climbs) ? -1 : fence == null || fence.gate ? 1 : 1 + fence.high / 10;
        }
        return apart(36, CELL_A, CELL_B, cost)[f.home];
    }

    int far(int family, int cell) {
        isFamily(family);
        isCell(cell);
        int far = farFrom(family)[cell];
        return far >= FAR_OFF ? NONE : far;
    }

    boolean meet(int family, int other) {
        areTwo(family, other);
        Family f = s.families.get(family);
        Family g = s.families.get(other);
        return flood(s, f.home, f.climbs, Set.of()).contains(g.home)
                && flood(s, g.home, g.climbs, Set.of()).contains(f.home);
    }

    int halfway(int family, int other) {
        areTwo(family, other);
        int[] one = farFrom(family);
        int[] two = farFrom(other);
        int best = NONE;
        int least = FAR_OFF;
        for (int cell = 0; cell < 36; cell++) {
            if (one[cell] + two[cell] < least) {
                least = one[cell] + two[cell];
                best = cell;
            }
        }
        return best;
    }

    boolean sees(int family, int cell) {
        isFamily(family);
        isCell(cell);
        Family f = s.families.get(family);
        int x = f.home % 6;
        int y = f.home / 6;
        int tx = cell % 6;
        int ty = cell / 6;
        if (x != tx && y != ty) {
            return false;
        }
        int lowX = Math.min(x, tx);
        int lowY = Math.min(y, ty);
        int steps = Math.abs(x - tx) + Math.abs(y - ty);
        for (int i = 0; i < steps; i++) {
            int b = y == ty ? 5 * y + lowX + i : 30 + 6 * (lowY + i) + x;
            if (s.fences.containsKey(b) && s.fences.get(b).high >= f.eyes) {
                return false;
            }
        }
        return true;
    }

    int waves() {
        int pairs = 0;
        for (int f = 0; f < s.families.size(); f++) {
            for (int g = 0; g < f; g++) {
                pairs += sees(f, s.families.get(g).home) && sees(g, s.families.get(f).home) ? 1 : 0;
            }
        }
        return pairs;
    }

    int hidden() {
        int bits = 0;
        for (int f = 0; f < s.families.size(); f++) {
            int seers = 0;
            for (int g = 0; g < s.families.size(); g++) {
                seers += g != f && sees(g, s.families.get(f).home) ? 1 : 0;
            }
            bits += seers == 0 ? Math.pow(2, f) : 0;
        }
        return bits;
    }

    int pulls(int cell, int other, int height) {
        isCell(cell);
        isCell(other);
        isHeight(height);
        int[] cost = new int[60];
        for (int b = 0; b < 60; b++) {
            cost[b] = s.open(b, height) ? 0 : 1;
        }
        return apart(36, CELL_A, CELL_B, cost)[cell][other];
    }

    int lowest(int cell, int other) {
        isCell(cell);
        isCell(other);
        int height = 0;
        while (!flood(s, cell, height, Set.of()).contains(other)) {
            height++;
        }
        return height;
    }

    int closes(int cell, int other, int height) {
        isCell(cell);
        isCell(other);
        isHeight(height);
        if (cell == other) {
            return NONE;
        }
        for (int cuts = 0; ; cuts++) {
            if (canCut(cell, other, height, cuts, new HashSet<>())) {
                return cuts;
            }
        }
    }

    /** Tries each border of one way that is left: one of them must be shut. */
    private boolean canCut(int cell, int other, int height, int cuts, Set<Integer> shut) {
        List<Integer> way = someWay(cell, other, height, shut);
        if (way == null) {
            return true;
        }
        if (cuts == 0) {
            return false;
        }
        for (int b : way) {
            shut.add(b);
            boolean cut = canCut(cell, other, height, cuts - 1, shut);
            shut.remove(b);
            if (cut) {
                return true;
            }
        }
        return false;
    }

    private List<Integer> someWay(int cell, int other, int height, Set<Integer> shut) {
        Map<Integer, List<Integer>> ways = new HashMap<>();
        ways.put(cell, new ArrayList<>());
        Deque<Integer> open = new ArrayDeque<>(List.of(cell));
        while (!open.isEmpty()) {
            int at = open.pollFirst();
            for (int b = 0; b < 60; b++) {
                if (shut.contains(b) || !s.open(b, height)) {
                    continue;
                }
                int next = CELL_A[b] == at ? CELL_B[b] : CELL_B[b] == at ? CELL_A[b] : NONE;
                if (next != NONE && !ways.containsKey(next)) {
                    List<Integer> way = new ArrayList<>(ways.get(at));
                    way.add(b);
                    ways.put(next, way);
                    open.addLast(next);
                }
            }
        }
        return ways.get(other);
    }

    private List<Set<Integer>> landsOf(int height, Set<Integer> shut) {
        List<Set<Integer>> lands = new ArrayList<>();
        Set<Integer> seen = new HashSet<>();
        for (int cell = 0; cell < 36; cell++) {
            if (!seen.contains(cell)) {
                lands.add(flood(s, cell, height, shut));
                seen.addAll(lands.get(lands.size() - 1));
            }
        }
        return lands;
    }

    int lands(int height) {
        isHeight(height);
        return landsOf(height, Set.of()).size();
    }

    int wide(int height) {
        isHeight(height);
        return landsOf(height, Set.of()).stream().mapToInt(Set::size).max().getAsInt();
    }

    int land(int cell, int height) {
        isCell(cell);
        isHeight(height);
        return flood(s, cell, height, Set.of()).size();
    }

    int gaps(int height) {
        isHeight(height);
        int gaps = 0;
        for (int b = 0; b < 60; b++) {
            if (s.open(b, height) && !flood(s, CELL_A[b], height, Set.of(b)).contains(CELL_B[b])) {
                gaps++;
            }
        }
        return gaps;
    }

    boolean all(int height) {
        isHeight(height);
        if (s.families.isEmpty()) {
            return true;
        }
        Set<Integer> land = flood(s, s.families.get(0).home, height, Set.of());
        return s.families.stream().allMatch(f -> land.contains(f.home));
    }

    int reach() {
        int height = 0;
        while (!all(height)) {
            height++;
        }
        return height;
    }

    private int[][] ladderCosts() {
        int[] cost = new int[60];
        for (int b = 0; b < 60; b++) {
            cost[b] = s.open(b, 0) ? 0 : s.fences.get(b).high;
        }
        return apart(36, CELL_A, CELL_B, cost);
    }

    int ladders() {
        if (s.families.isEmpty()) {
            return 0;
        }
        int[][] d = ladderCosts();
        Map<Integer, Integer> known = new HashMap<>();
        return treeTo(d, (1 << s.families.size()) - 1, s.families.get(0).home, known);
    }

    /** The least tree that joins a set of homes with a cell: a way to a cell where it parts in two. */
    private int treeTo(int[][] d, int set, int cell, Map<Integer, Integer> known) {
        if (Integer.bitCount(set) == 1) {
            return d[s.families.get(Integer.numberOfTrailingZeros(set)).home][cell];
        }
        Integer was = known.get(set * 36 + cell);
        if (was != null) {
            return was;
        }
        int best = FAR_OFF;
        for (int part = (set - 1) & set; part > 0; part = (part - 1) & set) {
            for (int fork = 0; fork < 36; fork++) {
                best = Math.min(best, d[cell][fork] + treeAt(d, part, fork, known)
                        + treeAt(d, set ^ part, fork, known));
            }
        }
        known.put(set * 36 + cell, best);
        return best;
    }

    private int treeAt(int[][] d, int set, int cell, Map<Integer, Integer> known) {
        return treeTo(d, set, cell, known);
    }

    int one(int cell, int other) {
        isCell(cell);
        isCell(other);
        return ladderCosts()[cell][other];
    }

    private int[] topCosts(int height) {
        int[] cost = new int[60];
        for (int b = 0; b < 60; b++) {
            Fence f = s.fences.get(b);
            cost[b] = f != null && f.high >= height ? 1 : -1;
        }
        return cost;
    }

    int walk(int corner, int other, int height) {
        bounds(corner >= 0 && corner < 49);
        bounds(other >= 0 && other < 49);
        isHeight(height);
        int edges = apart(49, CORNER_A, CORNER_B, topCosts(height))[corner][other];
        return edges >= FAR_OFF ? NONE : edges;
    }

    int hangs(int height) {
        isHeight(height);
        int[] cost = topCosts(height);
        int[][] d = apart(49, CORNER_A, CORNER_B, cost);
        int most = 0;
        for (int corner = 0; corner < 49; corner++) {
            int edges = 0;
            for (int b = 0; b < 60; b++) {
                edges += cost[b] == 1 && d[corner][CORNER_A[b]] < FAR_OFF ? 1 : 0;
            }
            most = Math.max(most, edges);
        }
        return most;
    }

    int ends(int height) {
        isHeight(height);
        int[] cost = topCosts(height);
        int ends = 0;
        for (int corner = 0; corner < 49; corner++) {
            int edges = 0;
            for (int b = 0; b < 60; b++) {
                edges += cost[b] == 1 && (CORNER_A[b] == corner || CORNER_B[b] == corner) ? 1 : 0;
            }
            ends += edges == 1 ? 1 : 0;
        }
        return ends;
    }

    private static int highIn(int put, int grew, int year) {
        return year <= put ? 0 : (year - put) * grew;
    }

    private List<int[]> fitting() {
        List<Integer> rows = useTape();
        argument(rows.size() <= 40 && rows.size() % 2 == 0);
        for (int i = 0; i < rows.size(); i += 2) {
            argument(rows.get(i) <= 99);
        }
        List<int[]> fits = new ArrayList<>();
        for (int put = 0; put < 100; put++) {
            for (int grew = 0; grew < 10; grew++) {
                boolean fit = true;
                for (int i = 0; i < rows.size(); i += 2) {
                    int off = highIn(put, grew, rows.get(i)) - rows.get(i + 1);
                    fit &= off >= -1 && off <= 1;
                }
                if (fit) {
                    fits.add(new int[] {put, grew});
                }
            }
        }
        return fits;
    }

    int seen(boolean best) {
        List<int[]> fits = fitting();
        return !best ? fits.size() : fits.isEmpty() ? NONE : 10 * fits.get(0)[0] + fits.get(0)[1];
    }

    int ask() {
        List<int[]> fits = fitting();
        if (fits.size() < 2) {
            return NONE;
        }
        int best = NONE;
        int least = FAR_OFF;
        for (int year = 0; year < 100; year++) {
            Map<Integer, Integer> parts = new HashMap<>();
            for (int[] fit : fits) {
                parts.merge(highIn(fit[0], fit[1], year), 1, Integer::sum);
            }
            int greatest = parts.values().stream().mapToInt(i -> i).max().getAsInt();
            if (greatest < least) {
                least = greatest;
                best = year;
            }
        }
        return best;
    }

    int loses(int family, int border) {
        isFamily(family);
        isBorder(border);
        Family f = s.families.get(family);
        return flood(s, f.home, f.climbs, Set.of()).size() - flood(s, f.home, f.climbs, Set.of(border)).size();
    }

    int pairs(int family) {
        if (family != NONE) {
            isFamily(family);
        }
        int n = s.families.size();
        List<int[]> ways = new ArrayList<>();
        int[] partner = new int[n];
        Arrays.fill(partner, -2);
        allPairings(partner, 0, ways);
        int[] best = null;
        for (int[] way : ways) {
            if (best == null || isBetter(way, best)) {
                best = way;
            }
        }
        if (family == NONE) {
            return pairsIn(best);
        }
        return best[family];
    }

    private void allPairings(int[] partner, int family, List<int[]> ways) {
        if (family == partner.length) {
            ways.add(partner.clone());
            return;
        }
        if (partner[family] != -2) {
            allPairings(partner, family + 1, ways);
            return;
        }
        partner[family] = NONE;
        allPairings(partner, family + 1, ways);
        for (int other = family + 1; other < partner.length; other++) {
            if (partner[other] == -2 && meet(family, other)) {
                partner[family] = other;
                partner[other] = family;
                allPairings(partner, family + 1, ways);
                partner[other] = -2;
            }
        }
        partner[family] = -2;
    }

    private static int pairsIn(int[] way) {
        return (int) Arrays.stream(way).filter(other -> other != NONE).count() / 2;
    }

    private int costOf(int[] way) {
        int cost = 0;
        for (int f = 0; f < way.length; f++) {
            cost += way[f] > f ? farFrom(f)[s.families.get(way[f]).home] : 0;
        }
        return cost;
    }

    private boolean isBetter(int[] way, int[] than) {
        if (pairsIn(way) != pairsIn(than)) {
            return pairsIn(way) > pairsIn(than);
        }
        if (costOf(way) != costOf(than)) {
            return costOf(way) < costOf(than);
        }
        for (int f = 0; f < way.length; f++) {
            int a = way[f] == NONE ? 99 : way[f];
            int b = than[f] == NONE ? 99 : than[f];
            if (a != b) {
                return a < b;
            }
        }
        return false;
    }

    int rests(int family, int other) {
        areTwo(family, other);
        int bits = 0;
        for (int one = 0; one < 2; one++) {
            for (int two = 0; two < 2; two++) {
                boolean rests = has(family, one, two) >= has(family, 1 - one, two)
                        && has(other, two, one) >= has(other, 1 - two, one);
                bits |= rests ? 1 << 2 * one + two : 0;
            }
        }
        return bits;
    }

    private int has(int family, int own, int others) {
        Family f = s.families.get(family);
        int[][] table = {{5, 0 - f.sore / 10 + 1}, {3, f.climbs / 100}};
        return table[own][others];
    }

    int odds(int family, int n) {
        isFamily(family);
        argument(n >= 0 && n <= 4);
        int p = Math.min(100, s.quarrel + s.families.get(family).sore);
        int odds = 10000;
        for (int i = 0; i < n; i++) {
            odds = (int) Math.floor(odds * (100 - p) / 100.0);
        }
        return odds;
    }

    int oldest() {
        return s.fences.keySet().stream().sorted()
                .reduce((a, b) -> s.fences.get(b).age > s.fences.get(a).age ? b : a).orElse(NONE);
    }

    int highest(boolean most) {
        return s.fences.keySet().stream().sorted().reduce((a, b) -> {
            int more = s.fences.get(b).high - s.fences.get(a).high;
            return (most ? more : -more) > 0 ? b : a;
        }).orElse(NONE);
    }

    int sorest() {
        int best = NONE;
        for (int f = 0; f < s.families.size(); f++) {
            int than = best == NONE ? 0 : s.families.get(best).sore;
            best = s.families.get(f).sore > than ? f : best;
        }
        return best;
    }

    int twins() {
        int pairs = 0;
        for (Family f : s.families) {
            for (Family g : s.families) {
                pairs += f != g && f.climbs == g.climbs && f.eyes == g.eyes ? 1 : 0;
            }
        }
        return pairs / 2;
    }

    private static void isYears(int n) {
        argument(n >= 0 && n <= 100);
    }

    int ahead(int border, int n) {
        isBorder(border);
        isYears(n);
        State t = s.copy();
        for (int i = 0; i < n; i++) {
            t.pass(false);
        }
        return t.fences.containsKey(border) ? t.fences.get(border).high : 0;
    }

    private static State after(State s, int n) {
        State t = s.copy();
        for (int i = 0; i < n; i++) {
            t.pass(true);
        }
        return t;
    }

    int trial(int n, boolean high) {
        isYears(n);
        State t = after(s, n);
        return high ? t.fences.values().stream().mapToInt(f -> f.high).sum() : t.fences.size();
    }

    int span(int n, boolean most) {
        isYears(n);
        int least = FAR_OFF;
        int greatest = 0;
        for (int seed = 1; seed <= 6; seed++) {
            State t = s.copy();
            t.seed = seed;
            int fences = after(t, n).fences.size();
            least = Math.min(least, fences);
            greatest = Math.max(greatest, fences);
        }
        return most ? greatest : least;
    }

    int led(int border, boolean year) {
        isBorder(border);
        if (year) {
            return s.log.stream().filter(row -> row[1] == border).map(row -> row[0]).findFirst().orElse(NONE);
        }
        return (int) s.log.stream().filter(row -> row[1] == border).count();
    }

    int log(int ago, int what) {
        if (what < 0 || what > 4) {
            throw new NoSuchElementException();
        }
        if (ago < 0 || ago >= s.log.size()) {
            return -2;
        }
        return new ArrayList<>(s.log).get(ago)[what];
    }

    int seed(int n) {
        int was = s.seed;
        s.seed = n;
        return was;
    }

    boolean undo() {
        if (acts.isEmpty()) {
            return false;
        }
        s = acts.removeFirst();
        return true;
    }

    void image() {
        image = s.copy();
    }

    boolean back() {
        if (image == null) {
            return false;
        }
        s = image.copy();
        acts.clear();
        return true;
    }

    int count(int what) {
        return switch (what) {
            case 0 -> s.families.size();
            case 1 -> s.fences.size();
            case 2 -> s.texts;
            case 3 -> s.law == null ? NONE : s.law.size();
            case 4 -> s.year;
            case 5 -> s.quarrel;
            case 6 -> (int) s.fences.values().stream().filter(f -> f.gate).count();
            case 7 -> (int) s.fences.values().stream().filter(f -> f.string).count();
            case 8 -> s.fences.values().stream().mapToInt(f -> f.high).sum();
            case 9 -> s.families.stream().mapToInt(f -> f.sore).sum();
            case 10 -> s.log.size();
            case 11 -> acts.size();
            default -> NONE;
        };
    }
}
