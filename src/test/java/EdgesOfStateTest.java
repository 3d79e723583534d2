/** Boundary sentences of promises 46, 47 and 50 to 59: the most of fences, years ahead, the log, acts undone, the image. */
public final class EdgesOfStateTest {
    public static void main(String[] args) {
        Edges.run(EdgesOfStateTest.class);
    }

    // ---- 46 and 47: oldest, highest ----

    @Says(promise = 46, sentence = "OLDEST: the BORDER of the FENCE of the most AGE (of several the least; none).")
    static void oldestOfNoneAndOfSeveral() {
        OldFences x = new OldFences();
        Kit.due("without fences", x.oldest(), -1);
        x.raise(59);
        Kit.due("one of age 0", x.oldest(), 59);
        x.raise(30);
        Kit.due("two of age 0", x.oldest(), 30);
        Kit.county(x, "fence 34 35 age 1");
        Kit.due("one of age 1", x.oldest(), 29);
        Kit.county(x, "fence 34 35 age 999;fence 23 29 age 999;fence 0 1 age 998");
        Kit.due("999 is more than 998", x.oldest(), 29);
        x.years(1);
        Kit.due("all are 999 at most", x.oldest(), 0);
        x.pull(0);
        x.pull(29);
        Kit.due("the next of 999", x.oldest(), 53);
        Edges.changesNothing("oldest", Edges.lively("").oldest(), y -> y.oldest());
    }

    @Says(promise = 47, sentence = "HIGHEST, LOWLIEST: that of the most, the least HIGH likewise.")
    static void highestAndLowliestOfNoneAndOfSeveral() {
        OldFences x = new OldFences();
        Kit.due("highest without fences", x.highest(true), -1);
        Kit.due("lowliest without fences", x.highest(false), -1);
        x.raise(59);
        Kit.due("highest of one of 0", x.highest(true), 59);
        Kit.due("lowliest of one of 0", x.highest(false), 59);
        x.raise(30);
        Kit.due("highest of two of 0", x.highest(true), 30);
        Kit.due("lowliest of two of 0", x.highest(false), 30);
        Kit.county(x, "fence 34 35 high 999;fence 23 29 high 999;fence 0 1 high 998;fence 1 2 high 1");
        Kit.due("highest, the least of 999", x.highest(true), 29);
        Kit.due("lowliest, the least of 0", x.highest(false), 30);
        x.pull(30);
        x.pull(59);
        Kit.due("lowliest of 1", x.highest(false), 1);
        x.years(1);
        Kit.due("highest, 999 at most", x.highest(true), 0);
        Edges.changesNothing("highest", Edges.lively("").highest(true), y -> y.highest(true));
        Edges.changesNothing("lowliest", Edges.lively("").highest(false), y -> y.highest(false));
    }

    // ---- 50: ahead ----

    @Says(promise = 50, sentence = "AHEAD by N YEARS (0 to 100): as so many YEARS without (c) (no DRAWS).")
    static void aheadFromNoYearToAHundred() {
        OldFences x = Kit.told("fence 0 1 high 5;fence 34 35 high 990 gate;family at 0 climbs 0;quarrel 100");
        Kit.due("by no year", x.ahead(0, 0), 5);
        Kit.due("by one", x.ahead(0, 1), 6);
        Kit.due("by a hundred", x.ahead(0, 100), 105);
        Kit.due("999 at most", x.ahead(29, 100), 999);
        Kit.law(x, "sink 3");
        Kit.due("by one, sinking", x.ahead(0, 1), 2);
        Kit.due("0 at least", x.ahead(0, 2), 0);
        Kit.law(x, "grow 1 if age < 2;grow 10 if year > 98;grow 50 if year < 1");
        Kit.due("by the years on the way", x.ahead(0, 100), 5 + 2 + 10 + 50);
        Kit.due("no seed is drawn", x.seed(1), 1);
    }

    @Says(promise = 50, sentence = "HIGH (0 without a FENCE)")
    static void aheadOfNoFence() {
        OldFences x = Kit.told("family at 0 climbs 0;quarrel 100");
        for (int border : new int[] {0, 30, 59}) {
            Kit.due("no fence on " + border, x.ahead(border, 0), 0);
            Kit.due("none is put up on " + border, x.ahead(border, 100), 0);
        }
        x.raise(0);
        x.pull(0);
        Kit.due("a pulled one", x.ahead(0, 100), 0);
    }

    @Says(promise = 50, sentence = "IllegalArgumentException: N is none.")
    static void aheadByNoYears() {
        for (int n : Edges.NO_YEARS) {
            Edges.refused("ahead(0, " + n + ")", Edges.ARGUMENT, x -> x.ahead(0, n));
            Edges.refused("ahead(59, " + n + ") of none", Edges.ARGUMENT, x -> x.ahead(59, n));
        }
        Edges.changesNothing("ahead(0, 100)", Edges.lively("").ahead(0, 100), x -> x.ahead(0, 100));
    }

    @Says(promise = 50, sentence = "Of several exceptions the one told first is thrown")
    static void aheadOfNoBorder() {
        for (int border : Edges.NO_BORDERS) {
            Edges.refused("ahead(" + border + ", 1)", Edges.BOUNDS, x -> x.ahead(border, 1));
            Edges.refused("ahead(" + border + ", 101)", Edges.BOUNDS, x -> x.ahead(border, 101));
        }
    }

    // ---- 51 and 52: trial, span ----

    @Says(promise = 51, sentence = "TRIAL of N YEARS (0 to 100) from now (draws, too; nothing stays)")
    static void trialsFromNoYearToAHundred() {
        String lines = "family at 14 climbs 0;quarrel 100;fence 0 1 high 990;fence 1 2 high 3 string";
        OldFences x = Kit.told(lines);
        Kit.due("no year, fences", x.trial(0, false), 2);
        Kit.due("no year, high", x.trial(0, true), 993);
        OldFences lived = Kit.told(lines);
        lived.years(1);
        Kit.due("one year, fences", x.trial(1, false), lived.count(1));
        Kit.due("one year, high", x.trial(1, true), lived.count(8));
        lived.years(99);
        Kit.due("a hundred years, fences", x.trial(100, false), 6);
        Kit.due("a hundred years, high", x.trial(100, true), lived.count(8));
        OldFences none = new OldFences();
        Kit.due("nothing there, fences", none.trial(100, false), 0);
        Kit.due("nothing there, high", none.trial(100, true), 0);
    }

    @Says(promise = 51, sentence = "(draws, too; nothing stays)")
    static void nothingStaysOfATrial() {
        Edges.changesNothing("trial(100, false)", Edges.lively("").trial(100, false), x -> x.trial(100, false));
        Edges.changesNothing("trial(100, true)", Edges.lively("").trial(100, true), x -> x.trial(100, true));
        Edges.changesNothing("trial(0, true)", Edges.lively("").count(8), x -> x.trial(0, true));
    }

    @Says(promise = 51, sentence = "IllegalArgumentException: N is none.")
    static void trialOfNoYears() {
        for (int n : Edges.NO_YEARS) {
            Edges.refused("trial(" + n + ", false)", Edges.ARGUMENT, x -> x.trial(n, false));
            Edges.refused("trial(" + n + ", true)", Edges.ARGUMENT, x -> x.trial(n, true));
        }
    }

    @Says(promise = 52, sentence = "SPAN: the least and the greatest number of FENCES so from SEED 1, 2, .. 6.")
    static void spansFromNoYearToAHundred() {
        OldFences x = Kit.told("family at 14 climbs 0;quarrel 100;fence 0 1");
        Kit.due("no year, least", x.span(0, false), 1);
        Kit.due("no year, greatest", x.span(0, true), 1);
        Kit.due("one year, least", x.span(1, false), 2);
        Kit.due("one year, greatest", x.span(1, true), 2);
        Kit.due("a hundred years, least", x.span(100, false), 5);
        Kit.due("a hundred years, greatest", x.span(100, true), 5);
        OldFences none = new OldFences();
        Kit.due("nothing there, least", none.span(100, false), 0);
        Kit.due("nothing there, greatest", none.span(100, true), 0);
    }

    @Says(promise = 52, sentence = "from SEED 1, 2, .. 6")
    static void eachOfTheSixSeedsCountsAndNoOther() {
        // SEEDS 0 to 7 that had alone the least, and alone the most, in one case at least
        int aloneLeast = 0;
        int aloneMost = 0;
        String two = "family at 14 climbs 0;family at 28 climbs 0;quarrel ";
        String three = "family at 8 climbs 0;family at 28 climbs 0;family at 16 climbs 0;quarrel ";
        for (int quarrel = 2; quarrel < 100; quarrel += 3) {
            for (int n = 1; n <= 12; n++) {
                OldFences x = Kit.told((quarrel % 2 == 0 ? two : three) + quarrel);
                int[] fences = new int[8];
                for (int seed = 0; seed < 8; seed++) {
                    x.seed(seed);
                    fences[seed] = x.trial(n, false);
                }
                String what = " of " + n + " years, quarrel " + quarrel;
                Kit.due("least" + what, x.span(n, false), extreme(fences, false));
                Kit.due("greatest" + what, x.span(n, true), extreme(fences, true));
                aloneLeast |= alone(fences, false);
                aloneMost |= alone(fences, true);
            }
        }
        Kit.due("each had the least once", aloneLeast, 255);
        Kit.due("each had the most once", aloneMost, 255);
    }

    /** Of SEED 1 to 6. */
    private static int extreme(int[] fences, boolean most) {
        int extreme = fences[1];
        for (int seed = 2; seed <= 6; seed++) {
            extreme = most ? Math.max(extreme, fences[seed]) : Math.min(extreme, fences[seed]);
        }
        return extreme;
    }

    /** The seeds, as bits, that have more, or less, than all of 1 to 6 but themselves. */
    private static int alone(int[] fences, boolean most) {
        int bits = 0;
        for (int seed = 0; seed < 8; seed++) {
            boolean is = true;
            for (int other = 1; other <= 6; other++) {
                boolean beats = most ? fences[seed] > fences[other] : fences[seed] < fences[other];
                is &= other == seed || beats;
            }
            bits |= is ? 1 << seed : 0;
        }
        return bits;
    }

    @Says(promise = 52, sentence = "IllegalArgumentException: N is none.")
    static void spanOfNoYears() {
        for (int n : Edges.NO_YEARS) {
            Edges.refused("span(" + n + ", false)", Edges.ARGUMENT, x -> x.span(n, false));
            Edges.refused("span(" + n + ", true)", Edges.ARGUMENT, x -> x.span(n, true));
        }
        Edges.changesNothing("span(100, false)", Edges.lively("").span(100, false), x -> x.span(100, false));
        Edges.changesNothing("span(100, true)", Edges.lively("").span(100, true), x -> x.span(100, true));
    }

    // ---- 53 and 54: led, log ----

    private static void dueRow(OldFences x, int ago, int... row) {
        for (int what = 0; what < row.length; what++) {
            Kit.due("log(" + ago + ", " + what + ")", x.log(ago, what), row[what]);
        }
    }

    @Says(promise = 53, sentence = "LED: how many rows of THE LOG are of a BORDER; the YEAR of the latest (none).")
    static void ledOfNoneAndOfSixty() {
        OldFences x = Kit.told("year 7;fence 0 1;row 0 high 3");
        Kit.due("no row yet", x.led(0, false), 0);
        Kit.due("no year yet", x.led(0, true), -1);
        for (int i = 1; i <= 60; i++) {
            x.again(0, 0);
            Kit.due("rows", x.led(0, false), i);
        }
        Kit.due("the year", x.led(0, true), 7);
        x.years(1);
        x.again(0, 0);
        Kit.due("60 rows at most", x.led(0, false), 60);
        Kit.due("the latest year", x.led(0, true), 8);
        Kit.due("no row of the last border", x.led(59, false), 0);
        Kit.due("no year of the last border", x.led(59, true), -1);
        x.raise(59);
        Kit.due("one row less", x.led(0, false), 59);
        Kit.due("a row of the last border", x.led(59, false), 1);
    }

    @Says(promise = 53, sentence = "the YEAR of the latest (none)")
    static void theLatestBehindRowsOfOthers() {
        OldFences x = new OldFences();
        x.raise(0);
        x.years(1);
        x.pull(0);
        x.years(1);
        x.raise(1);
        x.raise(2);
        Kit.due("the year of the pulling", x.led(0, true), 1);
        Kit.due("two rows", x.led(0, false), 2);
        Kit.due("the year of the one put up", x.led(1, true), 2);
        Kit.due("none of another one", x.led(3, true), -1);
    }

    @Says(promise = 53, sentence = "the YEAR of the latest (none)")
    static void ledOfTheYearZero() {
        OldFences x = new OldFences();
        x.raise(0);
        Kit.due("the year 0 is one", x.led(0, true), 0);
        for (int i = 0; i < 30; i++) {
            x.raise(1);
            x.pull(1);
        }
        Kit.due("its row is gone", x.led(0, false), 0);
        Kit.due("its year is gone", x.led(0, true), -1);
    }

    @Says(promise = 53, sentence = "IndexOutOfBoundsException: there is no such CELL, BORDER, family, CORNER.")
    static void ledOfNoBorder() {
        for (int border : Edges.NO_BORDERS) {
            Edges.refused("led(" + border + ", false)", Edges.BOUNDS, x -> x.led(border, false));
            Edges.refused("led(" + border + ", true)", Edges.BOUNDS, x -> x.led(border, true));
        }
        Edges.changesNothing("led(50, false)", 2, x -> x.led(50, false));
    }

    @Says(promise = 54, sentence = "the latest 60 times that a FENCE was put up by a quarrel (0), by hand (1), pulled (2), begun again (3)")
    static void sixtyRowsAreAll() {
        OldFences x = new OldFences();
        for (int i = 0; i < 60; i++) {
            x.raise(i);
        }
        Kit.due("60 rows", x.count(10), 60);
        dueRow(x, 59, 0, 0, 1, -1, 0);
        dueRow(x, 0, 0, 59, 1, -1, 0);
        x.pull(7);
        Kit.due("60 rows still", x.count(10), 60);
        dueRow(x, 0, 0, 7, 2, -1, 0);
        dueRow(x, 1, 0, 59, 1, -1, 0);
        dueRow(x, 59, 0, 1, 1, -1, 0);
        Kit.due("no 61st", x.log(60, 0), -2);
    }

    @Says(promise = 54, sentence = "the latest 60 times that a FENCE was put up by a quarrel (0), by hand (1), pulled (2), begun again (3)")
    static void theRowsGoRoundTwice() {
        OldFences x = new OldFences();
        x.raise(0);
        for (int i = 1; i <= 121; i++) {
            x.years(1);
            x.again(0, 1);
        }
        Kit.due("60 rows", x.count(10), 60);
        for (int ago = 0; ago < 60; ago++) {
            Kit.due("the year " + ago + " ago", x.log(ago, 0), 121 - ago);
        }
        Kit.due("none behind", x.log(60, 0), -2);
    }

    @Says(promise = 54, sentence = "all is as ahead of it")
    static void aRowThatWasPushedOutComesBack() {
        OldFences x = new OldFences();
        for (int i = 0; i < 60; i++) {
            x.raise(i);
        }
        x.image();
        x.pull(7);
        x.pull(8);
        dueRow(x, 59, 0, 2, 1, -1, 0);
        x.undo();
        x.undo();
        dueRow(x, 59, 0, 0, 1, -1, 0);
        dueRow(x, 0, 0, 59, 1, -1, 0);
        x.pull(9);
        x.pull(10);
        x.pull(11);
        x.back();
        dueRow(x, 59, 0, 0, 1, -1, 0);
        dueRow(x, 57, 0, 2, 1, -1, 0);
        Kit.due("60 rows", x.count(10), 60);
    }

    @Says(promise = 54, sentence = "THE IMAGE (one) of all may be kept, and gone back to")
    static void allRowsComeBack() {
        OldFences x = new OldFences();
        for (int i = 0; i < 60; i++) {
            x.raise(i);
        }
        x.image();
        for (int i = 0; i < 60; i++) {
            x.pull(59 - i);
        }
        x.back();
        for (int ago = 0; ago < 60; ago++) {
            Kit.due("log(" + ago + ", 1)", x.log(ago, 1), 59 - ago);
            Kit.due("log(" + ago + ", 2)", x.log(ago, 2), 1);
        }
    }

    @Says(promise = 54, sentence = "YEAR, the BORDER, 0 to 3, the family (none of 1 to 3), HIGH that it was (0 of 0, 1)")
    static void whatEachRowTells() {
        OldFences x = Kit.told("year 5;family at 0 climbs 0;family at 14 climbs 0;fence 0 1 high 9;fence 0 6 high 8");
        x.pull(0);
        dueRow(x, 0, 5, 0, 2, -1, 9);
        x.raise(0);
        dueRow(x, 0, 5, 0, 1, -1, 0);
        x.again(30, 3);
        dueRow(x, 0, 5, 30, 3, -1, 8);
        Kit.county(x, "quarrel 100");
        // the first family's sides are shut or at the rim; the other one's upper side is put up
        int seed = 1;
        while (Edges.drawOf(fourth(seed)) % 4 != 2) {
            seed++;
        }
        x.seed(seed);
        Kit.due("one put up", x.years(1), 1);
        dueRow(x, 0, 5, 38, 0, 1, 0);
        Kit.due("four rows", x.count(10), 4);
    }

    private static int fourth(int seed) {
        int then = seed;
        for (int i = 0; i < 4; i++) {
            then = Edges.nextSeed(then);
        }
        return then;
    }

    @Says(promise = 54, sentence = "a FENCE was put up by a quarrel (0), by hand (1), pulled (2), begun again (3)")
    static void whatIsInNoRow() {
        OldFences x = Kit.told("fence 0 1 high 9;row 3 high 4;family at 35 climbs 0");
        x.gate(0, true);
        x.string(0, true);
        x.forgive(0);
        x.move(0, 0);
        x.learn(0, 9);
        x.years(1);
        x.seed(9);
        x.image();
        Kit.due("no row", x.count(10), 0);
        Kit.due("none to be told", x.log(0, 0), -2);
    }

    @Says(promise = 54, sentence = "THE LOG so many ago (0 the latest)")
    static void noSuchAgo() {
        OldFences x = new OldFences();
        for (int what = 0; what < 5; what++) {
            Kit.due("of an empty log, " + what, x.log(0, what), -2);
        }
        x.raise(0);
        for (int ago : new int[] {1, -1, 60, Integer.MIN_VALUE, Integer.MAX_VALUE}) {
            Kit.due("log(" + ago + ", 0)", x.log(ago, 0), -2);
            Kit.due("log(" + ago + ", 4)", x.log(ago, 4), -2);
        }
        Kit.due("the one", x.log(0, 2), 1);
        x.undo();
        Kit.due("undone", x.log(0, 2), -2);
    }

    @Says(promise = 54, sentence = "- 2 without. NoSuchElementException: another what.")
    static void anotherWhat() {
        for (int what : new int[] {-1, 5, Integer.MIN_VALUE, Integer.MAX_VALUE}) {
            Edges.refused("log(0, " + what + ")", Edges.NO_ELEMENT, x -> x.log(0, what));
            Edges.refused("log(60, " + what + ")", Edges.NO_ELEMENT, x -> x.log(60, what));
            Edges.refused("log(-1, " + what + ")", Edges.NO_ELEMENT, x -> x.log(-1, what));
        }
        OldFences empty = new OldFences();
        Kit.dueNoElement("of an empty log", () -> empty.log(0, 5));
    }

    // ---- 55: seed ----

    @Says(promise = 55, sentence = "SEED: what it was.")
    static void anyNumberIsASeed() {
        OldFences x = new OldFences();
        Kit.due("at first", x.seed(Integer.MIN_VALUE), 1);
        Kit.due("the least", x.seed(Integer.MAX_VALUE), Integer.MIN_VALUE);
        Kit.due("the most", x.seed(0), Integer.MAX_VALUE);
        Kit.due("0", x.seed(-1), 0);
        Kit.due("-1", x.seed(1), -1);
        Kit.due("no act", x.count(11), 0);
    }

    // ---- 56: undo ----

    @Says(promise = 56, sentence = "UNDONE: whether there was one.")
    static void nothingToUndo() {
        OldFences x = new OldFences();
        Kit.due("nothing done", x.undo(), false);
        x.seed(5);
        x.image();
        x.feed(0, 0, 0, 0, 0);
        Kit.dueState("pull of none", () -> x.pull(0));
        Kit.due("no act done", x.undo(), false);
        x.raise(0);
        Kit.due("one", x.undo(), true);
        Kit.due("none behind it", x.undo(), false);
        Kit.due("nothing is there", x.count(1), 0);
        Kit.due("the tape stays", x.end(20), true);
    }

    @Says(promise = 56, sentence = "(12 are remembered; YEARS of one call are one)")
    static void twelveAreRemembered() {
        OldFences x = new OldFences();
        for (int i = 1; i <= 12; i++) {
            x.years(i);
            Kit.due("acts", x.count(11), i);
        }
        for (int i = 12; i >= 1; i--) {
            Kit.due("undo of " + i, x.undo(), true);
            Kit.due("the year ahead of " + i, x.count(4), i * (i - 1) / 2);
            Kit.due("acts left", x.count(11), i - 1);
        }
        Kit.due("no more", x.undo(), false);
    }

    @Says(promise = 56, sentence = "(12 are remembered; YEARS of one call are one)")
    static void theThirteenthForgetsTheFirst() {
        OldFences x = new OldFences();
        for (int i = 1; i <= 13; i++) {
            x.years(1);
        }
        Kit.due("12 acts", x.count(11), 12);
        for (int i = 0; i < 12; i++) {
            Kit.due("undo", x.undo(), true);
        }
        Kit.due("no 13th", x.undo(), false);
        Kit.due("the first stays", x.count(4), 1);
    }

    @Says(promise = 56, sentence = "the latest ACT not undone yet (12 are remembered")
    static void theRememberedGoRound() {
        OldFences x = new OldFences();
        for (int i = 1; i <= 30; i++) {
            x.years(1);
        }
        for (int i = 0; i < 5; i++) {
            x.undo();
        }
        Kit.due("25 are left", x.count(4), 25);
        for (int i = 0; i < 3; i++) {
            x.years(2);
        }
        Kit.due("ten are remembered", x.count(11), 10);
        int[] due = {29, 27, 25, 24, 23, 22, 21, 20, 19, 18};
        for (int year : due) {
            Kit.due("undo", x.undo(), true);
            Kit.due("the year then", x.count(4), year);
        }
        Kit.due("no more", x.undo(), false);
    }

    @Says(promise = 56, sentence = "all is as ahead of it (but for the TAPE, fault(), THE IMAGE)")
    static void allButTapeFaultAndImage() {
        OldFences x = Kit.told("family at 14 climbs 3;quarrel 100;fence 0 1 high 9");
        x.years(3);
        x.image();
        Kit.feed(x, "year x");
        Kit.dueArgument("a wrong text", () -> x.county());
        Kit.feed(x, "year 9");
        Kit.due("undo", x.undo(), true);
        Kit.due("the fault stays", x.fault(), 5);
        Kit.due("the year as it was", x.count(4), 0);
        Kit.due("the fences as they were", x.count(1), 1);
        Kit.due("the rows as they were", x.count(10), 0);
        int seed = x.seed(1);
        Kit.due("the seed as it was", seed, 1);
        Kit.due("the tape stays", x.county(), 2);
        Kit.due("its year", x.count(4), 9);
        Kit.due("the image stays", x.back(), true);
        Kit.due("the year of the image", x.count(4), 3);
    }

    @Says(promise = 56, sentence = "A text, going back: none are remembered.")
    static void aTextForgets() {
        OldFences x = new OldFences();
        x.raise(0);
        Kit.county(x, "");
        Kit.due("behind an empty text", x.undo(), false);
        Kit.due("what was done stays", x.count(1), 1);
        x.raise(1);
        Kit.law(x, "");
        Kit.due("behind a law", x.undo(), false);
        x.raise(2);
        x.image();
        x.raise(3);
        x.back();
        Kit.due("behind going back", x.undo(), false);
        Kit.due("three are there", x.count(1), 3);
        x.raise(4);
        Kit.due("an act behind that", x.undo(), true);
    }

    @Says(promise = 56, sentence = "A text, going back: none are remembered.")
    static void whatIsRefusedForgetsNothing() {
        OldFences x = new OldFences();
        x.raise(0);
        Kit.feed(x, "year x");
        Kit.dueArgument("a wrong text", () -> x.county());
        Kit.feed(x, "grow x");
        Kit.dueArgument("a wrong law", () -> x.law());
        Kit.feed(x, "xyz");
        Kit.dueArgument("wrong rows", () -> x.seen(true));
        Kit.due("no image", x.back(), false);
        Kit.due("one act", x.count(11), 1);
        Kit.feed(x, "");
        x.seen(true);
        x.ask();
        Kit.due("rows that were seen are no text", x.undo(), true);
    }

    // ---- 57 and 58: image, back ----

    @Says(promise = 58, sentence = "false, and nothing happens, if none was kept")
    static void noImage() {
        OldFences x = new OldFences();
        Kit.due("of a new county", x.back(), false);
        x.raise(0);
        x.seed(7);
        Kit.due("without one", x.back(), false);
        Kit.due("the act is remembered", x.count(11), 1);
        Kit.due("the fence stays", x.count(1), 1);
        Kit.due("the seed stays", x.seed(0), 7);
    }

    @Says(promise = 57, sentence = "THE IMAGE (one) of all may be kept")
    static void oneImageAlone() {
        OldFences x = new OldFences();
        x.image();
        x.raise(0);
        x.image();
        x.raise(1);
        Kit.due("back", x.back(), true);
        Kit.due("to the later one", x.count(1), 1);
        Kit.due("back again", x.back(), true);
        Kit.due("to it still", x.count(1), 1);
    }

    @Says(promise = 57, sentence = "THE IMAGE is kept.")
    static void keepingAnImageChangesNothing() {
        OldFences x = Edges.lively("year 777");
        OldFences untouched = Edges.lively("year 777");
        x.back();
        untouched.back();
        x.raise(59);
        untouched.raise(59);
        x.image();
        Kit.due("the acts stay", x.count(11), 1);
        Kit.due("undo", x.undo(), true);
        untouched.undo();
        for (int what = 0; what < 12; what++) {
            Kit.due("count(" + what + ")", x.count(what), untouched.count(what));
        }
        Kit.due("the image holds what was undone", x.back(), true);
        Kit.due("the fence of then", x.border(59, 0), 1);
    }

    @Says(promise = 58, sentence = "gone back to (but for the TAPE, fault() and THE IMAGE itself)")
    static void backToAllButTapeFaultAndImage() {
        OldFences x = Edges.lively("");
        x.image();
        OldFences then = Edges.lively("year 777");
        then.image();
        then.back();
        Kit.county(x, "fence 30 31;family at 3 climbs 3;quarrel 1;year 1");
        Kit.law(x, "sink 60;sore 60");
        x.years(50);
        x.seed(1234567);
        x.raise(x.border(59, 0) == 1 ? 29 : 59);
        Kit.feed(x, "   y");
        Kit.dueArgument("a wrong text", () -> x.county());
        Kit.feed(x, "year 777");
        Kit.due("back", x.back(), true);
        Kit.due("the fault stays", x.fault(), 3);
        Kit.due("no acts", x.count(11), 0);
        Edges.alike("going back", x, then);
    }

    @Says(promise = 58, sentence = "One goes back to THE IMAGE: true")
    static void backToNothing() {
        OldFences x = new OldFences();
        x.image();
        Kit.county(x, "fence 0 1;" + "family at 0 climbs 0;".repeat(6) + "year 3");
        Kit.law(x, "grow 3");
        Kit.due("back", x.back(), true);
        int[] due = {0, 0, 0, -1, 0, 0, 0, 0, 0, 0, 0, 0};
        for (int what = 0; what < due.length; what++) {
            Kit.due("count(" + what + ")", x.count(what), due[what]);
        }
        Kit.dueBounds("no family", () -> x.family(0, 0));
        Kit.due("families again", Kit.county(x, "family at 0 climbs 0" + ";family at 0 climbs 0".repeat(5)), 1);
    }

    // ---- 59: count ----

    @Says(promise = 59, sentence = "NONE for another what.")
    static void anotherCount() {
        OldFences x = Edges.lively("");
        for (int what : new int[] {-1, 12, 13, Integer.MIN_VALUE, Integer.MAX_VALUE}) {
            Kit.due("count(" + what + ")", x.count(what), -1);
        }
    }

    @Says(promise = 59, sentence = "3 LINES of THE LAW (NONE without one)")
    static void linesOfNoLaw() {
        OldFences x = new OldFences();
        Kit.due("without one", x.count(3), -1);
        Kit.law(x, "");
        Kit.due("of an empty one", x.count(3), 0);
    }

    @Says(promise = 59, sentence = "1 FENCES, 2 texts of THE COUNTY")
    static void allAtTheirMost() {
        OldFences x = Edges.grown(999);
        for (int border = 0; border < 60; border++) {
            x.gate(border, true);
            x.string(border, true);
        }
        Kit.county(x, "family at 14 climbs 0" + ";family at 14 climbs 0".repeat(5) + ";quarrel 100;year 999");
        for (int i = x.count(2); i < 12; i++) {
            Kit.county(x, "");
        }
        Kit.law(x, "sore 60" + ";sore 60".repeat(11));
        for (int i = 0; i < 12; i++) {
            x.again(59 - i, 999);
        }
        for (int i = 0; i < 48; i++) {
            x.again(i, 999);
        }
        for (int i = 0; i < 91; i++) {
            x.years(100);
        }
        int[] due = {6, 60, 12, 12, 9999, 100, 60, 60, 59940, 594, 60, 12};
        for (int what = 0; what < due.length; what++) {
            Kit.due("count(" + what + ")", x.count(what), due[what]);
        }
    }
}
