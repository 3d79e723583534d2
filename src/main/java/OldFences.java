import java.util.Arrays;
import java.util.NoSuchElementException;

/** A county whose fences are as high as they are old: ../shared/DOC.md promises what each call answers. */
public final class OldFences {
    public static final int NONE = -1;

    private static final int SIDE = 6;
    private static final int CELLS = 36;
    private static final int CORNERS = 49;
    private static final int BORDERS = 60;
    private static final int FIRST_ACROSS = 30;
    private static final int MOST = 999;
    private static final int MOST_FAMILIES = 6;
    private static final int MOST_TEXTS = 12;
    private static final int MOST_YEARS = 100;
    private static final int MOST_ODDS_YEARS = 4;
    private static final int MOST_ACTS = 12;
    private static final int SEEDS_TRIED = 6;

    private final Tape tape = new Tape();
    private final CountyReader countyReader = new CountyReader(tape);
    private final LawReader lawReader = new LawReader(tape);
    private final County now = new County();
    /** A county to try things on: texts that may prove wrong, years that are not to stay. */
    private final County draft = new County();
    private final County kept = new County();
    private boolean isKept = false;
    /** Remembered counties, each as it was ahead of an act; a ring, so that the oldest is overwritten. */
    private final County[] acts = new County[MOST_ACTS];
    private int firstAct = 0;
    private int actCount = 0;
    private final Pieces pieces = new Pieces();
    private final Paths paths = new Paths();
    private final Neighbours neighbours = new Neighbours(pieces, paths);
    private final Sightings sightings = new Sightings();

    public OldFences() {
        for (int i = 0; i < MOST_ACTS; i++) {
            acts[i] = new County();
        }
    }

    // ---- texts ----

    public int feed(int a, int b, int c, int d, int e) {
        if (!tape.hasRoom(20)) {
            return NONE;
        }
        tape.put(a);
        tape.put(b);
        tape.put(c);
        tape.put(d);
        tape.put(e);
        return tape.length;
    }

    public boolean end(int n) {
        return tape.cut(n);
    }

    public int county() throws IllegalArgumentException, UnsupportedOperationException {
        draft.copyFrom(now);
        if (!countyReader.reads(draft)) {
            throw new IllegalArgumentException();
        }
        if (now.texts >= MOST_TEXTS) {
            throw new UnsupportedOperationException();
        }
        draft.texts++;
        now.copyFrom(draft);
        actCount = 0;
        return now.texts;
    }

    public int law() throws IllegalArgumentException {
        if (!lawReader.reads()) {
            throw new IllegalArgumentException();
        }
        now.law = lawReader.made();
        actCount = 0;
        return now.law.lines;
    }

    public int fault() {
        return tape.wrong;
    }

    // ---- what stands ----

    public int border(int border, int what) throws IndexOutOfBoundsException, NoSuchElementException {
        needBorder(border);
        if (what < 0 || what > 6) {
            throw new NoSuchElementException();
        }
        if (!now.there[border]) {
            return 0;
        }
        switch (what) {
            case 1:
                return now.age[border];
            case 2:
                return now.high[border];
            case 3:
                return now.gate[border] ? 1 : 0;
            case 4:
                return now.string[border] ? 1 : 0;
            case 5:
                return now.growth(border);
            case 6:
                return now.soreness(border);
            default:
                return 1;
        }
    }

    public int between(int cell, int other) throws IndexOutOfBoundsException {
        needCell(cell);
        needCell(other);
        return Grid.borderOf(cell, other);
    }

    public int family(int family, int what) throws IndexOutOfBoundsException, NoSuchElementException {
        needFamily(family);
        switch (what) {
            case 0:
                return now.home[family];
            case 1:
                return now.climbs[family];
            case 2:
                return now.eyes[family];
            case 3:
                return now.sore[family];
            case 4:
                return waysOf(family);
            case 5:
                return waysOf(family) * 100 / CELLS;
            case 6:
                return now.tower(now.home[family]);
            case 7:
                return neighbours.share(now, family);
            case 8:
                return bestPull(family);
            default:
                throw new NoSuchElementException();
        }
    }

    public int count(int what) {
        switch (what) {
            case 0:
                return now.families;
            case 1:
                return now.fences();
            case 2:
                return now.texts;
            case 3:
                return now.law == null ? NONE : now.law.lines;
            case 4:
                return now.year;
            case 5:
                return now.quarrel;
            case 6:
                return now.gates();
            case 7:
                return now.strings();
            case 8:
                return now.highTogether();
            case 9:
                return now.soreTogether();
            case 10:
                return now.log.rows;
            case 11:
                return actCount;
            default:
                return NONE;
        }
    }

    // ---- acts ----

    public int years(int n) throws IllegalArgumentException {
        if (n < 1 || n > MOST_YEARS) {
            throw new IllegalArgumentException();
        }
        rememberAct();
        return now.passYears(n);
    }

    public int raise(int border) throws IndexOutOfBoundsException, IllegalStateException {
        needBorder(border);
        if (now.there[border]) {
            throw new IllegalStateException();
        }
        rememberAct();
        now.put(border, 0);
        now.log.add(now.year, border, Log.BY_HAND, NONE, 0);
        return now.fences();
    }

    public int pull(int border) throws IndexOutOfBoundsException, IllegalStateException {
        needBorder(border);
        needFence(border);
        rememberAct();
        int was = now.high[border];
        now.there[border] = false;
        now.log.add(now.year, border, Log.PULLED, NONE, was);
        return was;
    }

    public boolean gate(int border, boolean is) throws IndexOutOfBoundsException, IllegalStateException {
        needBorder(border);
        needFence(border);
        rememberAct();
        boolean changes = now.gate[border] != is;
        now.gate[border] = is;
        return changes;
    }

    public boolean string(int border, boolean is) throws IndexOutOfBoundsException, IllegalStateException {
        needBorder(border);
        needFence(border);
        rememberAct();
        boolean changes = now.string[border] != is;
        now.string[border] = is;
        return changes;
    }

    public int again(int border, int high)
            throws IndexOutOfBoundsException, IllegalArgumentException, IllegalStateException {
        needBorder(border);
        needHeight(high);
        needFence(border);
        int was = now.high[border];
        if (was < high) {
            throw new IllegalStateException();
        }
        rememberAct();
        now.age[border] = 0;
        now.high[border] = high;
        now.log.add(now.year, border, Log.AGAIN, NONE, was);
        return was;
    }

    public int forgive(int family) throws IndexOutOfBoundsException {
        needFamily(family);
        rememberAct();
        int was = now.sore[family];
        now.sore[family] = 0;
        return was;
    }

    public int move(int family, int cell) throws IndexOutOfBoundsException {
        needFamily(family);
        needCell(cell);
        rememberAct();
        int was = now.home[family];
        now.home[family] = cell;
        return was;
    }

    public int learn(int family, int n) throws IndexOutOfBoundsException, IllegalArgumentException {
        needFamily(family);
        needHeight(n);
        rememberAct();
        int was = now.climbs[family];
        now.climbs[family] = n;
        return was;
    }

    // ---- where families come, meet and see ----

    public boolean open(int border, int height) throws IndexOutOfBoundsException, IllegalArgumentException {
        needBorder(border);
        needHeight(height);
        return now.isOpen(border, height);
    }

    public int far(int family, int cell) throws IndexOutOfBoundsException {
        needFamily(family);
        needCell(cell);
        return paths.climbing(now, family, cell);
    }

    public boolean meet(int family, int other) throws IndexOutOfBoundsException, IllegalArgumentException {
        needTwoFamilies(family, other);
        return neighbours.doMeet(now, family, other);
    }

    public int halfway(int family, int other) throws IndexOutOfBoundsException, IllegalArgumentException {
        needTwoFamilies(family, other);
        return neighbours.middle(now, family, other);
    }

    public boolean sees(int family, int cell) throws IndexOutOfBoundsException {
        needFamily(family);
        needCell(cell);
        return neighbours.doesSee(now, family, cell);
    }

    public int waves() {
        int pairs = 0;
        for (int family = 0; family < now.families; family++) {
            for (int other = family + 1; other < now.families; other++) {
                if (neighbours.doesSee(now, family, now.home[other])
                        && neighbours.doesSee(now, other, now.home[family])) {
                    pairs++;
                }
            }
        }
        return pairs;
    }

    public int hidden() {
        int bits = 0;
        for (int family = 0; family < now.families; family++) {
            boolean isSeen = false;
            for (int other = 0; other < now.families; other++) {
                isSeen = isSeen || other != family && neighbours.doesSee(now, other, now.home[family]);
            }
            bits |= isSeen ? 0 : 1 << family;
        }
        return bits;
    }

    public int loses(int family, int border) throws IndexOutOfBoundsException {
        needFamily(family);
        needBorder(border);
        int ways = waysOf(family);
        pieces.ofCells(now, now.climbs[family], border);
        return ways - pieces.nodesWith(now.home[family]);
    }

    public int pairs(int family) throws IndexOutOfBoundsException {
        if (family != NONE) {
            needFamily(family);
        }
        neighbours.pairUp(now);
        return family == NONE ? neighbours.pairCount() : neighbours.partner[family];
    }

    public int rests(int family, int other) throws IndexOutOfBoundsException, IllegalArgumentException {
        needTwoFamilies(family, other);
        return neighbours.restingChoices(now, family, other);
    }

    public int odds(int family, int n) throws IndexOutOfBoundsException, IllegalArgumentException {
        needFamily(family);
        if (n < 0 || n > MOST_ODDS_YEARS) {
            throw new IllegalArgumentException();
        }
        int quarrels = Math.min(100, now.quarrel + now.sore[family]);
        int odds = 10000;
        for (int year = 0; year < n; year++) {
            odds = odds * (100 - quarrels) / 100;
        }
        return odds;
    }

    public int sorest() {
        int best = NONE;
        int most = 0;
        for (int family = 0; family < now.families; family++) {
            if (now.sore[family] > most) {
                most = now.sore[family];
                best = family;
            }
        }
        return best;
    }

    public int twins() {
        int pairs = 0;
        for (int family = 0; family < now.families; family++) {
            for (int other = family + 1; other < now.families; other++) {
                if (now.climbs[family] == now.climbs[other] && now.eyes[family] == now.eyes[other]) {
                    pairs++;
                }
            }
        }
        return pairs;
    }

    // ---- ways, lands and ladders ----

    public int pulls(int cell, int other, int height) throws IndexOutOfBoundsException, IllegalArgumentException {
        needCell(cell);
        needCell(other);
        needHeight(height);
        return paths.pulling(now, height, cell, other);
    }

    public int lowest(int cell, int other) throws IndexOutOfBoundsException {
        needCell(cell);
        needCell(other);
        int least = 0;
        for (int step = 512; step > 0; step /= 2) {
            int tried = least + step - 1;
            if (tried < MOST && !isWayBetween(cell, other, tried)) {
                least = tried + 1;
            }
        }
        return least;
    }

    public int closes(int cell, int other, int height) throws IndexOutOfBoundsException, IllegalArgumentException {
        needCell(cell);
        needCell(other);
        needHeight(height);
        return cell == other ? NONE : paths.shutting(now, height, cell, other);
    }

    public int lands(int height) throws IllegalArgumentException {
        needHeight(height);
        pieces.ofCells(now, height, NONE);
        return pieces.count;
    }

    public int wide(int height) throws IllegalArgumentException {
        needHeight(height);
        pieces.ofCells(now, height, NONE);
        return pieces.mostNodes();
    }

    public int land(int cell, int height) throws IndexOutOfBoundsException, IllegalArgumentException {
        needCell(cell);
        needHeight(height);
        pieces.ofCells(now, height, NONE);
        return pieces.nodesWith(cell);
    }

    public int gaps(int height) throws IllegalArgumentException {
        needHeight(height);
        pieces.ofCells(now, height, NONE);
        int lands = pieces.count;
        int gaps = 0;
        for (int border = 0; border < BORDERS; border++) {
            if (now.isOpen(border, height)) {
                pieces.ofCells(now, height, border);
                gaps += pieces.count - lands;
            }
        }
        return gaps;
    }

    public boolean all(int height) throws IllegalArgumentException {
        needHeight(height);
        return areHomesTogether(height);
    }

    public int reach() {
        int least = 0;
        for (int step = 512; step > 0; step /= 2) {
            int tried = least + step - 1;
            if (tried < MOST && !areHomesTogether(tried)) {
                least = tried + 1;
            }
        }
        return least;
    }

    public int ladders() {
        return paths.laddersForAll(now);
    }

    public int one(int cell, int other) throws IndexOutOfBoundsException {
        needCell(cell);
        needCell(other);
        return paths.laddersBetween(now, cell, other);
    }

    // ---- along the tops ----

    public int walk(int corner, int other, int height) throws IndexOutOfBoundsException, IllegalArgumentException {
        needCorner(corner);
        needCorner(other);
        needHeight(height);
        return paths.walking(now, height, corner, other);
    }

    public int hangs(int height) throws IllegalArgumentException {
        needHeight(height);
        pieces.ofTops(now, height);
        return pieces.mostEdges();
    }

    public int ends(int height) throws IllegalArgumentException {
        needHeight(height);
        pieces.ofTops(now, height);
        return pieces.nodesOfOneEdge();
    }

    // ---- what was seen of a fence ----

    public int seen(boolean best) throws IllegalArgumentException {
        if (!sightings.reads(tape)) {
            throw new IllegalArgumentException();
        }
        return best ? sightings.firstFit() : sightings.fitCount;
    }

    public int ask() throws IllegalArgumentException {
        if (!sightings.reads(tape)) {
            throw new IllegalArgumentException();
        }
        return sightings.bestYear();
    }

    // ---- fences by age and height, and years ahead ----

    public int oldest() {
        int best = NONE;
        for (int border = 0; border < BORDERS; border++) {
            if (now.there[border] && (best == NONE || now.age[border] > now.age[best])) {
                best = border;
            }
        }
        return best;
    }

    public int highest(boolean most) {
        int best = NONE;
        for (int border = 0; border < BORDERS; border++) {
            if (!now.there[border]) {
                continue;
            }
            boolean isBetter = best == NONE
                    || (most ? now.high[border] > now.high[best] : now.high[border] < now.high[best]);
            best = isBetter ? border : best;
        }
        return best;
    }

    public int ahead(int border, int n) throws IndexOutOfBoundsException, IllegalArgumentException {
        needBorder(border);
        needYears(n);
        if (!now.there[border]) {
            return 0;
        }
        draft.copyFrom(now);
        for (int i = 0; i < n; i++) {
            draft.grow(border);
            draft.endYear();
        }
        return draft.high[border];
    }

    public int trial(int n, boolean high) throws IllegalArgumentException {
        needYears(n);
        draft.copyFrom(now);
        draft.passYears(n);
        return high ? draft.highTogether() : draft.fences();
    }

    public int span(int n, boolean most) throws IllegalArgumentException {
        needYears(n);
        int best = NONE;
        for (int seed = 1; seed <= SEEDS_TRIED; seed++) {
            draft.copyFrom(now);
            draft.seed = seed;
            draft.passYears(n);
            int fences = draft.fences();
            if (best == NONE || (most ? fences > best : fences < best)) {
                best = fences;
            }
        }
        return best;
    }

    // ---- the log ----

    public int led(int border, boolean year) throws IndexOutOfBoundsException {
        needBorder(border);
        return year ? now.log.latestYear(border) : now.log.rowsOf(border);
    }

    public int log(int ago, int what) throws NoSuchElementException {
        if (what < 0 || what >= Log.COLUMNS) {
            throw new NoSuchElementException();
        }
        return now.log.value(ago, what);
    }

    // ---- seed, acts undone, image ----

    public int seed(int n) {
        int was = now.seed;
        now.seed = n;
        return was;
    }

    public boolean undo() {
        if (actCount == 0) {
            return false;
        }
        actCount--;
        now.copyFrom(acts[(firstAct + actCount) % MOST_ACTS]);
        return true;
    }

    public void image() {
        kept.copyFrom(now);
        isKept = true;
    }

    public boolean back() {
        if (!isKept) {
            return false;
        }
        now.copyFrom(kept);
        actCount = 0;
        return true;
    }

    // ---- helpers of the calls above ----

    private static void needCell(int cell) {
        if (cell < 0 || cell >= CELLS) {
            throw new IndexOutOfBoundsException();
        }
    }

    private static void needCorner(int corner) {
        if (corner < 0 || corner >= CORNERS) {
            throw new IndexOutOfBoundsException();
        }
    }

    private static void needBorder(int border) {
        if (border < 0 || border >= BORDERS) {
            throw new IndexOutOfBoundsException();
        }
    }

    private void needFamily(int family) {
        if (family < 0 || family >= now.families) {
            throw new IndexOutOfBoundsException();
        }
    }

    private void needTwoFamilies(int family, int other) {
        needFamily(family);
        needFamily(other);
        if (family == other) {
            throw new IllegalArgumentException();
        }
    }

    private static void needHeight(int height) {
        if (height < 0 || height > MOST) {
            throw new IllegalArgumentException();
        }
    }

    private static void needYears(int n) {
        if (n < 0 || n > MOST_YEARS) {
            throw new IllegalArgumentException();
        }
    }

    private void needFence(int border) {
        if (!now.there[border]) {
            throw new IllegalStateException();
        }
    }

    private void rememberAct() {
        if (actCount == MOST_ACTS) {
            firstAct = (firstAct + 1) % MOST_ACTS;
            actCount--;
        }
        acts[(firstAct + actCount) % MOST_ACTS].copyFrom(now);
        actCount++;
    }

    private int waysOf(int family) {
        pieces.ofCells(now, now.climbs[family], NONE);
        return pieces.nodesWith(now.home[family]);
    }

    /** What is not open has a fence, so each border passed over here is one that can be pulled. */
    private int bestPull(int family) {
        int climbs = now.climbs[family];
        pieces.ofCells(now, climbs, NONE);
        int best = NONE;
        int most = 0;
        for (int border = 0; border < BORDERS; border++) {
            int gain = now.isOpen(border, climbs) ? 0 : pieces.gain(now.home[family], border);
            if (gain > most) {
                most = gain;
                best = border;
            }
        }
        return best;
    }

    private boolean isWayBetween(int cell, int other, int height) {
        pieces.ofCells(now, height, NONE);
        return pieces.areTogether(cell, other);
    }

    private boolean areHomesTogether(int height) {
        pieces.ofCells(now, height, NONE);
        for (int family = 1; family < now.families; family++) {
            if (!pieces.areTogether(now.home[0], now.home[family])) {
                return false;
            }
        }
        return true;
    }

    /** Where cells, borders and corners lie. */
    private static final class Grid {
        static final int LEFT = 0;
        static final int RIGHT = 1;
        static final int UP = 2;
        static final int DOWN = 3;
        static final int DIRECTIONS = 4;

        static int lessCell(int border) {
            return border < FIRST_ACROSS ? border / 5 * SIDE + border % 5 : border - FIRST_ACROSS;
        }

        static int moreCell(int border) {
            return border < FIRST_ACROSS ? border / 5 * SIDE + border % 5 + 1 : border - FIRST_ACROSS + SIDE;
        }

        /** The edge of a border that is not across runs down along the right side of its lesser cell. */
        static int lessCorner(int border) {
            if (border < FIRST_ACROSS) {
                return border / 5 * 7 + border % 5 + 1;
            }
            int cell = border - FIRST_ACROSS;
            return (cell / SIDE + 1) * 7 + cell % SIDE;
        }

        static int moreCorner(int border) {
            return lessCorner(border) + (border < FIRST_ACROSS ? 7 : 1);
        }

        /** The border on one side of a cell; NONE at the rim. */
        static int onSide(int cell, int direction) {
            int x = cell % SIDE;
            int y = cell / SIDE;
            switch (direction) {
                case LEFT:
                    return x > 0 ? 5 * y + x - 1 : NONE;
                case RIGHT:
                    return x < SIDE - 1 ? 5 * y + x : NONE;
                case UP:
                    return y > 0 ? FIRST_ACROSS + SIDE * (y - 1) + x : NONE;
                case DOWN:
                    return y < SIDE - 1 ? FIRST_ACROSS + SIDE * y + x : NONE;
                default:
                    return NONE;
            }
        }

        /** The cell on the other side of a border of this cell. */
        static int across(int cell, int border) {
            return lessCell(border) + moreCell(border) - cell;
        }

        static int borderOf(int cell, int other) {
            int less = Math.min(cell, other);
            int more = Math.max(cell, other);
            if (more - less == SIDE) {
                return FIRST_ACROSS + less;
            }
            boolean isBeside = more - less == 1 && less / SIDE == more / SIDE;
            return isBeside ? less / SIDE * 5 + less % SIDE : NONE;
        }

        /** The direction in which one looks from a cell to another one in line with it; NONE out of line. */
        static int towards(int cell, int other) {
            if (cell / SIDE == other / SIDE) {
                return other < cell ? LEFT : RIGHT;
            }
            if (cell % SIDE == other % SIDE) {
                return other < cell ? UP : DOWN;
            }
            return NONE;
        }

        static int apart(int cell, int other) {
            return Math.abs(cell % SIDE - other % SIDE) + Math.abs(cell / SIDE - other / SIDE);
        }
    }

    /** All that an act, a text or a year changes, so that it can be copied and gone back to as a whole. */
    private static final class County {
        private static final int MOST_SORE = 99;
        private static final int LAST_YEAR = 9999;

        final boolean[] there = new boolean[BORDERS];
        final int[] age = new int[BORDERS];
        final int[] high = new int[BORDERS];
        final boolean[] gate = new boolean[BORDERS];
        final boolean[] string = new boolean[BORDERS];
        int families = 0;
        final int[] home = new int[MOST_FAMILIES];
        final int[] climbs = new int[MOST_FAMILIES];
        final int[] eyes = new int[MOST_FAMILIES];
        final int[] sore = new int[MOST_FAMILIES];
        int year = 0;
        int quarrel = 0;
        int seed = 1;
        int texts = 0;
        Law law = null;
        final Log log = new Log();

        void copyFrom(County other) {
            System.arraycopy(other.age, 0, age, 0, BORDERS);
            System.arraycopy(other.high, 0, high, 0, BORDERS);
            for (int border = 0; border < BORDERS; border++) {
                there[border] = other.there[border];
                gate[border] = other.gate[border];
                string[border] = other.string[border];
            }
            families = other.families;
            System.arraycopy(other.home, 0, home, 0, MOST_FAMILIES);
            System.arraycopy(other.climbs, 0, climbs, 0, MOST_FAMILIES);
            System.arraycopy(other.eyes, 0, eyes, 0, MOST_FAMILIES);
            System.arraycopy(other.sore, 0, sore, 0, MOST_FAMILIES);
            year = other.year;
            quarrel = other.quarrel;
            seed = other.seed;
            texts = other.texts;
            law = other.law;
            log.copyFrom(other.log);
        }

        /** A new fence of age 0, neither gate nor string. */
        void put(int border, int inches) {
            there[border] = true;
            age[border] = 0;
            high[border] = inches;
            gate[border] = false;
            string[border] = false;
        }

        boolean isOpen(int border, int height) {
            return !there[border] || gate[border] || high[border] <= height;
        }

        /** What a family pays that crosses a border open for it. */
        int toll(int border) {
            return !there[border] || gate[border] ? 1 : 1 + high[border] / 10;
        }

        int ladder(int border) {
            return isOpen(border, 0) ? 0 : high[border];
        }

        boolean isTop(int border, int height) {
            return there[border] && high[border] >= height;
        }

        int growth(int border) {
            if (string[border]) {
                return 0;
            }
            return law == null ? 1 : law.total(Tape.GROW, this, border) - law.total(Tape.SINK, this, border);
        }

        int soreness(int border) {
            return law == null ? 0 : law.total(Tape.SORE, this, border);
        }

        int passYears(int n) {
            int put = 0;
            for (int i = 0; i < n; i++) {
                for (int border = 0; border < BORDERS; border++) {
                    grow(border);
                }
                for (int family = 0; family < families; family++) {
                    fret(family);
                }
                for (int family = 0; family < families; family++) {
                    put += quarrelOf(family);
                }
                endYear();
            }
            return put;
        }

        void grow(int border) {
            if (!there[border]) {
                return;
            }
            high[border] = Math.max(0, Math.min(MOST, high[border] + growth(border)));
            age[border] = Math.min(MOST, age[border] + 1);
        }

        private void fret(int family) {
            int more = 0;
            for (int direction = 0; direction < Grid.DIRECTIONS; direction++) {
                int border = Grid.onSide(home[family], direction);
                if (border != NONE && there[border]) {
                    more += soreness(border);
                }
            }
            sore[family] = Math.min(MOST_SORE, sore[family] + more);
        }

        /** How many fences the family puts up this year: one or none. */
        private int quarrelOf(int family) {
            if (draw() % 100 >= quarrel + sore[family]) {
                return 0;
            }
            int border = Grid.onSide(home[family], draw() % Grid.DIRECTIONS);
            if (border == NONE || there[border]) {
                return 0;
            }
            put(border, 0);
            log.add(year, border, Log.BY_QUARREL, family, 0);
            return 1;
        }

        private int draw() {
            seed = 1103515245 * seed + 12345;
            return seed >>> 16 & 0x7FFF;
        }

        void endYear() {
            year = Math.min(LAST_YEAR, year + 1);
        }

        int tower(int cell) {
            int inches = 0;
            for (int direction = 0; direction < Grid.DIRECTIONS; direction++) {
                int border = Grid.onSide(cell, direction);
                if (border != NONE && there[border]) {
                    inches += high[border];
                }
            }
            return inches;
        }

        int fences() {
            int fences = 0;
            for (int border = 0; border < BORDERS; border++) {
                fences += there[border] ? 1 : 0;
            }
            return fences;
        }

        int gates() {
            int gates = 0;
            for (int border = 0; border < BORDERS; border++) {
                gates += there[border] && gate[border] ? 1 : 0;
            }
            return gates;
        }

        int strings() {
            int strings = 0;
            for (int border = 0; border < BORDERS; border++) {
                strings += there[border] && string[border] ? 1 : 0;
            }
            return strings;
        }

        int highTogether() {
            int inches = 0;
            for (int border = 0; border < BORDERS; border++) {
                inches += there[border] ? high[border] : 0;
            }
            return inches;
        }

        int soreTogether() {
            int together = 0;
            for (int family = 0; family < families; family++) {
                together += sore[family];
            }
            return together;
        }
    }

    /** The latest rows; a ring, so that the oldest is overwritten. */
    private static final class Log {
        static final int BY_QUARREL = 0;
        static final int BY_HAND = 1;
        static final int PULLED = 2;
        static final int AGAIN = 3;
        static final int COLUMNS = 5;
        private static final int NO_ROW = -2;
        private static final int MOST_ROWS = 60;
        private static final int YEAR = 0;
        private static final int BORDER = 1;

        private final int[] cells = new int[MOST_ROWS * COLUMNS];
        private int next = 0;
        int rows = 0;

        void copyFrom(Log other) {
            System.arraycopy(other.cells, 0, cells, 0, MOST_ROWS * COLUMNS);
            next = other.next;
            rows = other.rows;
        }

        void add(int year, int border, int kind, int family, int high) {
            int at = next * COLUMNS;
            cells[at] = year;
            cells[at + 1] = border;
            cells[at + 2] = kind;
            cells[at + 3] = family;
            cells[at + 4] = high;
            next = (next + 1) % MOST_ROWS;
            rows = Math.min(MOST_ROWS, rows + 1);
        }

        int value(int ago, int column) {
            if (ago < 0 || ago >= rows) {
                return NO_ROW;
            }
            return cells[(next - 1 - ago + MOST_ROWS) % MOST_ROWS * COLUMNS + column];
        }

        int rowsOf(int border) {
            int found = 0;
            for (int ago = 0; ago < rows; ago++) {
                found += value(ago, BORDER) == border ? 1 : 0;
            }
            return found;
        }

        int latestYear(int border) {
            for (int ago = 0; ago < rows; ago++) {
                if (value(ago, BORDER) == border) {
                    return value(ago, YEAR);
                }
            }
            return NONE;
        }
    }

    /** A law that was read: of each line its kind, its number and its condition, operands ahead of operators. */
    private static final class Law {
        static final int MOST_LINES = 12;
        // Each of at most 7 levels holds one operand of or, one of and; the innermost a sum or two.
        private static final int STACK = 32;

        final int lines;
        private final int[] kinds;
        private final int[] numbers;
        private final int[] starts;
        private final int[] codes;
        private final int[] stack = new int[STACK];

        Law(int lines, int[] kinds, int[] numbers, int[] starts, int[] codes) {
            this.lines = lines;
            this.kinds = kinds;
            this.numbers = numbers;
            this.starts = starts;
            this.codes = codes;
        }

        /** The numbers of all lines of a kind that hold for a fence. */
        int total(int kind, County county, int border) {
            int total = 0;
            for (int line = 0; line < lines; line++) {
                if (kinds[line] == kind && holds(line, county, border)) {
                    total += numbers[line];
                }
            }
            return total;
        }

        private boolean holds(int line, County county, int border) {
            int cell = Grid.lessCell(border);
            int top = 0;
            for (int at = starts[line]; at < starts[line + 1]; at++) {
                int code = codes[at];
                if (code <= Tape.PLUS) {
                    if (top < 2) {
                        return false;
                    }
                    top--;
                    stack[top - 1] = ofTwo(code, stack[top - 1], stack[top]);
                } else if (code == Tape.NOT) {
                    if (top < 1) {
                        return false;
                    }
                    stack[top - 1] = 1 - stack[top - 1];
                } else {
                    if (top >= STACK) {
                        return false;
                    }
                    stack[top] = code >= 0 ? code : fact(code, county, border, cell);
                    top++;
                }
            }
            return top == 0 || stack[top - 1] != 0;
        }

        private static int ofTwo(int code, int first, int second) {
            switch (code) {
                case Tape.PLUS:
                    return first + second;
                case Tape.LESS:
                    return first < second ? 1 : 0;
                case Tape.MORE:
                    return first > second ? 1 : 0;
                case Tape.AND:
                    return first & second;
                default:
                    return first | second;
            }
        }

        private static int fact(int code, County county, int border, int cell) {
            switch (code) {
                case Tape.BORDER:
                    return border;
                case Tape.AGE:
                    return county.age[border];
                case Tape.HIGH:
                    return county.high[border];
                case Tape.X:
                    return cell % SIDE;
                case Tape.Y:
                    return cell / SIDE;
                case Tape.YEAR:
                    return county.year % 100;
                case Tape.GATE:
                    return county.gate[border] ? 1 : 0;
                case Tape.STRING:
                    return county.string[border] ? 1 : 0;
                default:
                    return border >= FIRST_ACROSS ? 1 : 0;
            }
        }
    }

    /** The bytes fed, and a text of them split into things; the first thing refused is the first wrong byte. */
    private static final class Tape {
        static final int MOST_BYTES = 400;
        private static final int MOST_DIGITS = 3;
        // A thing from 0 on is a number; those below 0 are these.
        static final int END = -1;
        static final int OTHER = -2;
        static final int SEMICOLON = -3;
        static final int OPENS = -4;
        static final int CLOSES = -5;
        static final int FENCE = -6;
        static final int ROW = -7;
        static final int FAMILY = -8;
        static final int QUARREL = -9;
        static final int AT = -10;
        static final int CLIMBS = -11;
        static final int EYES = -12;
        static final int GROW = -13;
        static final int SINK = -14;
        static final int SORE = -15;
        static final int IF = -16;
        static final int BORDER = -17;
        static final int AGE = -18;
        static final int HIGH = -19;
        static final int X = -20;
        static final int Y = -21;
        static final int YEAR = -22;
        static final int GATE = -23;
        static final int STRING = -24;
        static final int ACROSS = -25;
        static final int NOT = -26;
        // From here on down each is put between two operands.
        static final int PLUS = -27;
        static final int LESS = -28;
        static final int MORE = -29;
        static final int AND = -30;
        static final int OR = -31;

        final int[] bytes = new int[MOST_BYTES];
        int length = 0;
        int wrong = NONE;
        /** The things of the text, END the last one, and the byte at which each begins. */
        private final int[] things = new int[MOST_BYTES + 1];
        private final int[] begins = new int[MOST_BYTES + 1];
        private int at = 0;
        /** The number taken last. */
        int taken = 0;

        boolean hasRoom(int more) {
            return length + more <= MOST_BYTES;
        }

        void put(int number) {
            for (int shift = 24; shift >= 0 && length < MOST_BYTES; shift -= 8) {
                bytes[length] = number >>> shift & 255;
                length++;
            }
        }

        boolean cut(int n) {
            if (n < 0 || n > length) {
                return false;
            }
            length = n;
            return true;
        }

        /** Uses the tape up; its bytes stay where they are until the next are fed. */
        int useUp() {
            int was = length;
            length = 0;
            return was;
        }

        void startText() {
            int textLength = useUp();
            int count = 0;
            int from = 0;
            for (int i = 0; i < MOST_BYTES && from < textLength; i++) {
                if (bytes[from] == ' ') {
                    from++;
                    continue;
                }
                int after = endOfThing(from, textLength);
                things[count] = thingOf(from, after);
                begins[count] = from;
                count++;
                from = after;
            }
            things[count] = END;
            begins[count] = textLength;
            at = 0;
            wrong = NONE;
        }

        private int endOfThing(int from, int textLength) {
            int after = from + 1;
            if (isLetter(bytes[from])) {
                while (after < textLength && isLetter(bytes[after])) {
                    after++;
                }
            } else if (isDigit(bytes[from])) {
                while (after < textLength && isDigit(bytes[after])) {
                    after++;
                }
            }
            return after;
        }

        private int thingOf(int from, int after) {
            if (isLetter(bytes[from])) {
                int thing = countyWord(from, after);
                return thing == OTHER ? lawWord(from, after) : thing;
            }
            return isDigit(bytes[from]) ? number(from, after) : sign(bytes[from]);
        }

        /** A number of too many digits gets a value that is out of all bounds. */
        private int number(int from, int after) {
            if (after - from > MOST_DIGITS) {
                return MOST + 1;
            }
            int value = 0;
            for (int i = from; i < after; i++) {
                value = value * 10 + bytes[i] - '0';
            }
            return value;
        }

        private static int sign(int sign) {
            switch (sign) {
                case ';':
                    return SEMICOLON;
                case '(':
                    return OPENS;
                case ')':
                    return CLOSES;
                case '+':
                    return PLUS;
                case '<':
                    return LESS;
                case '>':
                    return MORE;
                default:
                    return OTHER;
            }
        }

        private int countyWord(int from, int after) {
            return isWord("fence", from, after) ? FENCE
                    : isWord("row", from, after) ? ROW
                    : isWord("family", from, after) ? FAMILY
                    : isWord("quarrel", from, after) ? QUARREL
                    : isWord("year", from, after) ? YEAR
                    : isWord("age", from, after) ? AGE
                    : isWord("high", from, after) ? HIGH
                    : isWord("gate", from, after) ? GATE
                    : isWord("string", from, after) ? STRING
                    : isWord("at", from, after) ? AT
                    : isWord("climbs", from, after) ? CLIMBS
                    : isWord("eyes", from, after) ? EYES
                    : OTHER;
        }

        private int lawWord(int from, int after) {
            return isWord("grow", from, after) ? GROW
                    : isWord("sink", from, after) ? SINK
                    : isWord("sore", from, after) ? SORE
                    : isWord("if", from, after) ? IF
                    : isWord("or", from, after) ? OR
                    : isWord("and", from, after) ? AND
                    : isWord("not", from, after) ? NOT
                    : isWord("across", from, after) ? ACROSS
                    : isWord("border", from, after) ? BORDER
                    : isWord("x", from, after) ? X
                    : isWord("y", from, after) ? Y
                    : OTHER;
        }

        private boolean isWord(String word, int from, int after) {
            if (after - from != word.length()) {
                return false;
            }
            for (int i = 0; i < word.length(); i++) {
                if (bytes[from + i] != word.charAt(i)) {
                    return false;
                }
            }
            return true;
        }

        private static boolean isLetter(int sign) {
            return sign >= 'a' && sign <= 'z';
        }

        private static boolean isDigit(int sign) {
            return sign >= '0' && sign <= '9';
        }

        int thing() {
            return things[at];
        }

        boolean isAtEnd() {
            return things[at] == END;
        }

        /** Never goes past the end, which is there to be seen, not to be taken. */
        void next() {
            if (things[at] != END) {
                at++;
            }
        }

        boolean takes(int thing) {
            boolean is = things[at] == thing && thing != END;
            if (is) {
                at++;
            }
            return is;
        }

        boolean takesNumber(int most) {
            boolean is = things[at] >= 0 && things[at] <= most;
            if (is) {
                taken = things[at];
                at++;
            }
            return is;
        }

        /** The second cell of two with a border between them; the border is what is taken. */
        boolean takesBorderFrom(int cell) {
            boolean isCell = things[at] >= 0 && things[at] < CELLS;
            int border = isCell ? Grid.borderOf(cell, things[at]) : NONE;
            if (border == NONE) {
                return false;
            }
            taken = border;
            at++;
            return true;
        }

        /** Always false: what stands next cannot stand there. */
        boolean refuses() {
            wrong = begins[at];
            return false;
        }
    }

    /** Reads a text of the county into a county that is thrown away if the text is wrong. */
    private static final class CountyReader {
        private static final int MOST_LINES = 14;
        private static final int MOST_ROW = 4;
        private static final int USUAL_EYES = 60;

        private final Tape tape;

        CountyReader(Tape tape) {
            this.tape = tape;
        }

        boolean reads(County county) {
            tape.startText();
            if (tape.isAtEnd()) {
                return true;
            }
            for (int line = 0; line < MOST_LINES; line++) {
                if (!readsLine(county)) {
                    return false;
                }
                if (tape.isAtEnd()) {
                    return true;
                }
                if (!tape.takes(Tape.SEMICOLON)) {
                    return tape.refuses();
                }
            }
            return tape.refuses();
        }

        private boolean readsLine(County county) {
            if (tape.takes(Tape.FENCE)) {
                return readsFence(county);
            }
            if (tape.takes(Tape.ROW)) {
                return readsRow(county);
            }
            if (county.families < MOST_FAMILIES && tape.takes(Tape.FAMILY)) {
                return readsFamily(county);
            }
            if (tape.takes(Tape.QUARREL)) {
                if (!tape.takesNumber(100)) {
                    return tape.refuses();
                }
                county.quarrel = tape.taken;
                return true;
            }
            if (tape.takes(Tape.YEAR)) {
                if (!tape.takesNumber(MOST)) {
                    return tape.refuses();
                }
                county.year = tape.taken;
                return true;
            }
            return tape.refuses();
        }

        private boolean readsFence(County county) {
            if (!tape.takesNumber(CELLS - 1) || !tape.takesBorderFrom(tape.taken)) {
                return tape.refuses();
            }
            int border = tape.taken;
            county.put(border, 0);
            if (tape.takes(Tape.AGE)) {
                if (!tape.takesNumber(MOST)) {
                    return tape.refuses();
                }
                county.age[border] = tape.taken;
            }
            if (tape.takes(Tape.HIGH)) {
                if (!tape.takesNumber(MOST)) {
                    return tape.refuses();
                }
                county.high[border] = tape.taken;
            }
            county.gate[border] = tape.takes(Tape.GATE);
            county.string[border] = tape.takes(Tape.STRING);
            return true;
        }

        private boolean readsRow(County county) {
            if (!tape.takesNumber(MOST_ROW)) {
                return tape.refuses();
            }
            int first = FIRST_ACROSS + SIDE * tape.taken;
            if (!tape.takes(Tape.HIGH) || !tape.takesNumber(MOST)) {
                return tape.refuses();
            }
            for (int x = 0; x < SIDE; x++) {
                county.put(first + x, tape.taken);
            }
            return true;
        }

        private boolean readsFamily(County county) {
            int family = county.families;
            if (!tape.takes(Tape.AT) || !tape.takesNumber(CELLS - 1)) {
                return tape.refuses();
            }
            county.home[family] = tape.taken;
            if (!tape.takes(Tape.CLIMBS) || !tape.takesNumber(MOST)) {
                return tape.refuses();
            }
            county.climbs[family] = tape.taken;
            county.eyes[family] = USUAL_EYES;
            if (tape.takes(Tape.EYES)) {
                if (!tape.takesNumber(MOST)) {
                    return tape.refuses();
                }
                county.eyes[family] = tape.taken;
            }
            county.sore[family] = 0;
            county.families = family + 1;
            return true;
        }
    }

    /** Reads a text of the law; what was read stands here until it is asked for. */
    private static final class LawReader {
        private static final int MOST_NUMBER = 60;
        private static final int MOST_DEEP = 6;

        private final Tape tape;
        private final int[] kinds = new int[Law.MOST_LINES];
        private final int[] numbers = new int[Law.MOST_LINES];
        private final int[] starts = new int[Law.MOST_LINES + 1];
        // Each thing of a text makes one code at most, and has one byte at least.
        private final int[] codes = new int[Tape.MOST_BYTES];
        private int lines = 0;
        private int codeCount = 0;

        LawReader(Tape tape) {
            this.tape = tape;
        }

        Law made() {
            return new Law(lines, Arrays.copyOf(kinds, lines), Arrays.copyOf(numbers, lines),
                    Arrays.copyOf(starts, lines + 1), Arrays.copyOf(codes, codeCount));
        }

        boolean reads() {
            lines = 0;
            codeCount = 0;
            tape.startText();
            if (tape.isAtEnd()) {
                return true;
            }
            for (int line = 0; line < Law.MOST_LINES; line++) {
                if (!readsLine(line)) {
                    return false;
                }
                lines = line + 1;
                starts[lines] = codeCount;
                if (tape.isAtEnd()) {
                    return true;
                }
                if (!tape.takes(Tape.SEMICOLON)) {
                    return tape.refuses();
                }
            }
            return tape.refuses();
        }

        private boolean readsLine(int line) {
            if (tape.takes(Tape.GROW)) {
                kinds[line] = Tape.GROW;
            } else if (tape.takes(Tape.SINK)) {
                kinds[line] = Tape.SINK;
            } else if (tape.takes(Tape.SORE)) {
                kinds[line] = Tape.SORE;
            } else {
                return tape.refuses();
            }
            if (!tape.takesNumber(MOST_NUMBER)) {
                return tape.refuses();
            }
            numbers[line] = tape.taken;
            return !tape.takes(Tape.IF) || readsCondition(0);
        }

        /** An or is put behind what follows it, so that each and in between binds first. */
        private boolean readsCondition(int depth) {
            if (!readsAtom(depth)) {
                return false;
            }
            boolean isOrDue = false;
            for (int i = 0; i < Tape.MOST_BYTES; i++) {
                if (tape.takes(Tape.AND)) {
                    if (!readsAtom(depth)) {
                        return false;
                    }
                    emit(Tape.AND);
                } else if (tape.takes(Tape.OR)) {
                    if (isOrDue) {
                        emit(Tape.OR);
                    }
                    isOrDue = true;
                    if (!readsAtom(depth)) {
                        return false;
                    }
                } else {
                    break;
                }
            }
            if (isOrDue) {
                emit(Tape.OR);
            }
            return true;
        }

        private boolean readsAtom(int depth) {
            if (depth < MOST_DEEP && tape.takes(Tape.NOT)) {
                if (!readsAtom(depth + 1)) {
                    return false;
                }
                emit(Tape.NOT);
                return true;
            }
            if (depth < MOST_DEEP && tape.takes(Tape.OPENS)) {
                return readsCondition(depth + 1) && (tape.takes(Tape.CLOSES) || tape.refuses());
            }
            int thing = tape.thing();
            if (thing <= Tape.GATE && thing >= Tape.ACROSS) {
                emit(thing);
                tape.next();
                return true;
            }
            return readsComparison();
        }

        private boolean readsComparison() {
            if (!readsSum()) {
                return false;
            }
            boolean isLess = tape.takes(Tape.LESS);
            if (!isLess && !tape.takes(Tape.MORE)) {
                return tape.refuses();
            }
            if (!readsSum()) {
                return false;
            }
            emit(isLess ? Tape.LESS : Tape.MORE);
            return true;
        }

        private boolean readsSum() {
            for (int i = 0; i < Tape.MOST_BYTES; i++) {
                int part = tape.thing();
                if (!isPart(part)) {
                    return tape.refuses();
                }
                tape.next();
                emit(part);
                if (i > 0) {
                    emit(Tape.PLUS);
                }
                if (!tape.takes(Tape.PLUS)) {
                    return true;
                }
            }
            return tape.refuses();
        }

        private static boolean isPart(int thing) {
            return thing >= 0 && thing <= MOST || thing <= Tape.BORDER && thing >= Tape.YEAR;
        }

        private void emit(int code) {
            if (codeCount < codes.length) {
                codes[codeCount] = code;
                codeCount++;
            }
        }
    }

    /** Cells by the borders that are open, or corners by the fences between them, fallen into pieces. */
    private static final class Pieces {
        private final int[] label = new int[CORNERS];
        private final int[] nodes = new int[CORNERS];
        private final int[] edges = new int[CORNERS];
        private final int[] edgesAt = new int[CORNERS];
        private int size = 0;
        int count = 0;

        /** One border may be taken as shut; NONE of them if that is NONE. */
        void ofCells(County county, int height, int shut) {
            start(CELLS);
            for (int border = 0; border < BORDERS; border++) {
                if (border != shut && county.isOpen(border, height)) {
                    join(Grid.lessCell(border), Grid.moreCell(border));
                }
            }
        }

        void ofTops(County county, int height) {
            start(CORNERS);
            for (int border = 0; border < BORDERS; border++) {
                if (county.isTop(border, height)) {
                    join(Grid.lessCorner(border), Grid.moreCorner(border));
                }
            }
        }

        private void start(int nodeCount) {
            size = nodeCount;
            count = nodeCount;
            for (int node = 0; node < CORNERS; node++) {
                label[node] = node;
                nodes[node] = 1;
                edges[node] = 0;
                edgesAt[node] = 0;
            }
        }

        private void join(int node, int other) {
            int stays = label[node];
            int goes = label[other];
            edges[stays]++;
            edgesAt[node]++;
            edgesAt[other]++;
            if (stays == goes) {
                return;
            }
            for (int i = 0; i < size; i++) {
                if (label[i] == goes) {
                    label[i] = stays;
                }
            }
            nodes[stays] += nodes[goes];
            edges[stays] += edges[goes];
            count--;
        }

        boolean areTogether(int node, int other) {
            return label[node] == label[other];
        }

        int nodesWith(int node) {
            return nodes[label[node]];
        }

        /** By how many cells the piece of a cell would grow if a border that is not open were. */
        int gain(int cell, int border) {
            int less = Grid.lessCell(border);
            int more = Grid.moreCell(border);
            if (areTogether(less, more)) {
                return 0;
            }
            if (areTogether(cell, less)) {
                return nodesWith(more);
            }
            return areTogether(cell, more) ? nodesWith(less) : 0;
        }

        int mostNodes() {
            int most = 0;
            for (int node = 0; node < size; node++) {
                most = Math.max(most, nodesWith(node));
            }
            return most;
        }

        int mostEdges() {
            int most = 0;
            for (int node = 0; node < size; node++) {
                most = Math.max(most, edges[label[node]]);
            }
            return most;
        }

        int nodesOfOneEdge() {
            int found = 0;
            for (int node = 0; node < size; node++) {
                found += edgesAt[node] == 1 ? 1 : 0;
            }
            return found;
        }
    }

    /** The least costs over borders, each with a cost of its own or shut. */
    private static final class Paths {
        private static final int SHUT = -1;
        /** Above every cost that a way can have, and twice it is no overflow. */
        private static final int NEVER = 1000000;

        private final int[] cost = new int[BORDERS];
        private final int[] least = new int[CORNERS];
        private final int[][] trees = new int[1 << MOST_FAMILIES][CELLS];
        private final int[] flow = new int[BORDERS];
        private final int[] cameBy = new int[CELLS];
        private final int[] queue = new int[CELLS];

        /** FAR of a family and a cell. */
        int climbing(County county, int family, int cell) {
            fromHome(county, family, least);
            return orNone(least[cell]);
        }

        /** FAR of a family and each cell, NEVER where it cannot come. */
        void fromHome(County county, int family, int[] costs) {
            int climbs = county.climbs[family];
            for (int border = 0; border < BORDERS; border++) {
                cost[border] = county.isOpen(border, climbs) ? county.toll(border) : SHUT;
            }
            spread(costs, county.home[family], false);
        }

        boolean isNever(int costs) {
            return costs >= NEVER;
        }

        int pulling(County county, int height, int cell, int other) {
            for (int border = 0; border < BORDERS; border++) {
                cost[border] = county.isOpen(border, height) ? 0 : 1;
            }
            spread(least, cell, false);
            return orNone(least[other]);
        }

        int laddersBetween(County county, int cell, int other) {
            chargeLadders(county);
            spread(least, cell, false);
            return orNone(least[other]);
        }

        int walking(County county, int height, int corner, int other) {
            for (int border = 0; border < BORDERS; border++) {
                cost[border] = county.isTop(border, height) ? 1 : SHUT;
            }
            spread(least, corner, true);
            return orNone(least[other]);
        }

        /** The least tree of ladders: of each set of homes the cost of joining them with each cell. */
        int laddersForAll(County county) {
            if (county.families == 0) {
                return 0;
            }
            chargeLadders(county);
            int sets = 1 << county.families;
            for (int set = 1; set < sets; set++) {
                int[] tree = trees[set];
                Arrays.fill(tree, NEVER);
                for (int family = 0; family < county.families; family++) {
                    if (set == 1 << family) {
                        tree[county.home[family]] = 0;
                    }
                }
                for (int part = 1; part < set; part++) {
                    if ((part & set) == part) {
                        joinTrees(tree, trees[part], trees[set - part]);
                    }
                }
                settle(tree, false);
            }
            return trees[sets - 1][county.home[0]];
        }

        private static void joinTrees(int[] tree, int[] one, int[] other) {
            for (int cell = 0; cell < CELLS; cell++) {
                tree[cell] = Math.min(tree[cell], one[cell] + other[cell]);
            }
        }

        private void chargeLadders(County county) {
            for (int border = 0; border < BORDERS; border++) {
                cost[border] = county.ladder(border);
            }
        }

        private static int orNone(int costs) {
            return costs >= NEVER ? NONE : costs;
        }

        private void spread(int[] costs, int from, boolean onTops) {
            Arrays.fill(costs, NEVER);
            costs[from] = 0;
            settle(costs, onTops);
        }

        /** No least way has more steps than there are corners, so that many rounds are enough. */
        private void settle(int[] costs, boolean onTops) {
            boolean changes = true;
            for (int round = 0; round < CORNERS && changes; round++) {
                changes = false;
                for (int border = 0; border < BORDERS; border++) {
                    if (cost[border] == SHUT) {
                        continue;
                    }
                    int one = onTops ? Grid.lessCorner(border) : Grid.lessCell(border);
                    int other = onTops ? Grid.moreCorner(border) : Grid.moreCell(border);
                    if (costs[one] + cost[border] < costs[other]) {
                        costs[other] = costs[one] + cost[border];
                        changes = true;
                    } else if (costs[other] + cost[border] < costs[one]) {
                        costs[one] = costs[other] + cost[border];
                        changes = true;
                    }
                }
            }
        }

        /** As many ways without a border in common as there are: so many borders must be shut. */
        int shutting(County county, int height, int cell, int other) {
            for (int border = 0; border < BORDERS; border++) {
                cost[border] = county.isOpen(border, height) ? 0 : SHUT;
                flow[border] = 0;
            }
            int ways = 0;
            while (ways < Grid.DIRECTIONS && findsWay(cell, other)) {
                fillWay(cell, other);
                ways++;
            }
            return ways;
        }

        /** Leaves in cameBy the border by which each cell was come to first. */
        private boolean findsWay(int from, int to) {
            Arrays.fill(cameBy, NONE);
            queue[0] = from;
            int length = 1;
            for (int at = 0; at < length && at < CELLS; at++) {
                int cell = queue[at];
                for (int direction = 0; direction < Grid.DIRECTIONS; direction++) {
                    int border = Grid.onSide(cell, direction);
                    if (border == NONE || !hasRoom(border, cell)) {
                        continue;
                    }
                    int next = Grid.across(cell, border);
                    if (next != from && cameBy[next] == NONE && length < CELLS) {
                        cameBy[next] = border;
                        queue[length] = next;
                        length++;
                    }
                }
            }
            return cameBy[to] != NONE;
        }

        private boolean hasRoom(int border, int fromCell) {
            return cost[border] != SHUT && flow[border] * wayOf(border, fromCell) < 1;
        }

        private void fillWay(int from, int to) {
            int cell = to;
            for (int i = 0; i < CELLS && cell != from; i++) {
                int border = cameBy[cell];
                if (border == NONE) {
                    return;
                }
                cell = Grid.across(cell, border);
                flow[border] += wayOf(border, cell);
            }
        }

        /** 1 out of the lesser cell of a border, -1 out of the other one. */
        private static int wayOf(int border, int fromCell) {
            return Grid.lessCell(border) == fromCell ? 1 : -1;
        }
    }

    /** What families are to one another. */
    private static final class Neighbours {
        private static final int PULL = 0;
        /** Worth of a pair; above all FARS of three pairs together, so that more pairs always win. */
        private static final int PAIR = 100000;

        private final Pieces pieces;
        private final Paths paths;
        private final int[] costs = new int[CELLS];
        private final int[] otherCosts = new int[CELLS];
        private final int[][] worthOfPair = new int[MOST_FAMILIES][MOST_FAMILIES];
        private final int[] worth = new int[1 << MOST_FAMILIES];
        /** With whom each family was put. */
        final int[] partner = new int[MOST_FAMILIES];

        Neighbours(Pieces pieces, Paths paths) {
            this.pieces = pieces;
            this.paths = paths;
        }

        boolean doMeet(County county, int family, int other) {
            return comesHomeTo(county, family, other) && comesHomeTo(county, other, family);
        }

        private boolean comesHomeTo(County county, int family, int other) {
            pieces.ofCells(county, county.climbs[family], NONE);
            return pieces.areTogether(county.home[family], county.home[other]);
        }

        int middle(County county, int family, int other) {
            paths.fromHome(county, family, costs);
            paths.fromHome(county, other, otherCosts);
            int best = NONE;
            for (int cell = 0; cell < CELLS; cell++) {
                if (paths.isNever(costs[cell]) || paths.isNever(otherCosts[cell])) {
                    continue;
                }
                if (best == NONE || costs[cell] + otherCosts[cell] < costs[best] + otherCosts[best]) {
                    best = cell;
                }
            }
            return best;
        }

        boolean doesSee(County county, int family, int cell) {
            int at = county.home[family];
            int direction = Grid.towards(at, cell);
            if (direction == NONE) {
                return false;
            }
            for (int i = 0; i < SIDE && at != cell; i++) {
                int border = Grid.onSide(at, direction);
                if (border == NONE || county.isTop(border, county.eyes[family])) {
                    return false;
                }
                at = Grid.across(at, border);
            }
            return at == cell;
        }

        int share(County county, int family) {
            int cells = 0;
            for (int cell = 0; cell < CELLS; cell++) {
                cells += nearest(county, cell) == family ? 1 : 0;
            }
            return cells;
        }

        private static int nearest(County county, int cell) {
            int best = 0;
            for (int family = 1; family < county.families; family++) {
                if (Grid.apart(county.home[family], cell) < Grid.apart(county.home[best], cell)) {
                    best = family;
                }
            }
            return best;
        }

        void pairUp(County county) {
            valuePairs(county);
            int sets = 1 << county.families;
            worth[0] = 0;
            for (int set = 1; set < sets; set++) {
                worth[set] = bestWorth(set, county.families);
            }
            Arrays.fill(partner, NONE);
            int left = sets - 1;
            for (int family = 0; family < county.families; family++) {
                if ((left >> family & 1) == 0) {
                    continue;
                }
                int other = firstBestPartner(left, family, county.families);
                left -= 1 << family;
                if (other != NONE) {
                    left -= 1 << other;
                    partner[family] = other;
                    partner[other] = family;
                }
            }
        }

        private void valuePairs(County county) {
            for (int family = 0; family < county.families; family++) {
                paths.fromHome(county, family, costs);
                for (int other = family + 1; other < county.families; other++) {
                    worthOfPair[family][other] =
                            doMeet(county, family, other) ? PAIR - costs[county.home[other]] : 0;
                }
            }
        }

        private int bestWorth(int set, int families) {
            int family = lowestOf(set);
            int rest = set - (1 << family);
            int best = worth[rest];
            for (int other = family + 1; other < families; other++) {
                if ((rest >> other & 1) == 1) {
                    best = Math.max(best, worthOfPair[family][other] + worth[rest - (1 << other)]);
                }
            }
            return best;
        }

        /** A pair that does not meet is worth nothing, and is passed over. */
        private int firstBestPartner(int set, int family, int families) {
            int rest = set - (1 << family);
            for (int other = family + 1; other < families; other++) {
                if ((rest >> other & 1) == 1 && worthOfPair[family][other] > 0
                        && worthOfPair[family][other] + worth[rest - (1 << other)] == worth[set]) {
                    return other;
                }
            }
            return NONE;
        }

        private static int lowestOf(int set) {
            int family = 0;
            while (family < MOST_FAMILIES - 1 && (set >> family & 1) == 0) {
                family++;
            }
            return family;
        }

        int pairCount() {
            int families = 0;
            for (int family = 0; family < MOST_FAMILIES; family++) {
                families += partner[family] == NONE ? 0 : 1;
            }
            return families / 2;
        }

        int restingChoices(County county, int family, int other) {
            int bits = 0;
            for (int choice = 0; choice < 4; choice++) {
                int own = choice / 2;
                int others = choice % 2;
                boolean isAtRest = payoff(county, family, own, others) >= payoff(county, family, 1 - own, others)
                        && payoff(county, other, others, own) >= payoff(county, other, 1 - others, own);
                bits |= isAtRest ? 1 << choice : 0;
            }
            return bits;
        }

        private static int payoff(County county, int family, int own, int others) {
            if (own == PULL) {
                return others == PULL ? 5 : 1 - county.sore[family] / 10;
            }
            return others == PULL ? 3 : county.climbs[family] / 100;
        }
    }

    /** When a fence was put up and how it grew each year, by what was seen of it. */
    private static final class Sightings {
        private static final int MOST_BYTES = 40;
        private static final int LAST_YEAR = 99;
        private static final int PAIRS = 1000;
        private static final int HEIGHTS = 900;

        /** The pairs that fit, each as 10 times the year and by how much it grew. */
        private final int[] fits = new int[PAIRS];
        private final int[] parts = new int[HEIGHTS];
        int fitCount = 0;

        boolean reads(Tape tape) {
            int length = tape.useUp();
            if (length > MOST_BYTES || length % 2 != 0) {
                return false;
            }
            for (int at = 0; at < length; at += 2) {
                if (tape.bytes[at] > LAST_YEAR) {
                    return false;
                }
            }
            fitCount = 0;
            for (int pair = 0; pair < PAIRS; pair++) {
                if (doesFit(pair, tape.bytes, length)) {
                    fits[fitCount] = pair;
                    fitCount++;
                }
            }
            return true;
        }

        private static boolean doesFit(int pair, int[] rows, int length) {
            for (int at = 0; at + 1 < length; at += 2) {
                if (Math.abs(highIn(pair, rows[at]) - rows[at + 1]) > 1) {
                    return false;
                }
            }
            return true;
        }

        private static int highIn(int pair, int year) {
            return Math.max(0, year - pair / 10) * (pair % 10);
        }

        int firstFit() {
            return fitCount == 0 ? NONE : fits[0];
        }

        int bestYear() {
            if (fitCount < 2) {
                return NONE;
            }
            int best = NONE;
            int least = PAIRS + 1;
            for (int year = 0; year <= LAST_YEAR; year++) {
                int greatest = greatestPart(year);
                if (greatest < least) {
                    least = greatest;
                    best = year;
                }
            }
            return best;
        }

        private int greatestPart(int year) {
            Arrays.fill(parts, 0);
            int greatest = 0;
            for (int i = 0; i < fitCount; i++) {
                int high = highIn(fits[i], year);
                parts[high]++;
                greatest = Math.max(greatest, parts[high]);
            }
            return greatest;
        }
    }
}
