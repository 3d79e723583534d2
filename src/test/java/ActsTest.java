/** Promises 7 and 9 to 18, 53 to 58: acts, the log, acts undone, the image, years and their draws. */
public final class ActsTest {
    public static void main(String[] args) {
        handwork();
        wrongActs();
        families();
        growing();
        soring();
        quarrels();
        aheadAndTrials();
        logAndLed();
        undone();
        images();
        Kit.close("ActsTest");
    }

    private static void handwork() {
        OldFences x = Kit.told("fence 0 1 age 8 high 40 gate string");
        Kit.due("raise", x.raise(59), 2);
        Kit.due("raise another one", x.raise(1), 3);
        Kit.due("raised age", x.border(59, 1), 0);
        Kit.due("raised high", x.border(59, 2), 0);
        Kit.due("gate stays", x.gate(0, true), false);
        Kit.due("gate goes", x.gate(0, false), true);
        Kit.due("no gate", x.border(0, 3), 0);
        Kit.due("gate comes", x.gate(59, true), true);
        Kit.due("string stays", x.string(0, true), false);
        Kit.due("string goes", x.string(0, false), true);
        Kit.due("no string", x.border(0, 4), 0);
        Kit.due("string comes", x.string(59, true), true);
        Kit.due("again", x.again(0, 39), 40);
        Kit.due("age of again", x.border(0, 1), 0);
        Kit.due("high of again", x.border(0, 2), 39);
        Kit.due("again as high", x.again(0, 39), 39);
        Kit.due("again keeps the gate", x.again(59, 0), 0);
        Kit.due("its gate", x.border(59, 3), 1);
        Kit.due("its string", x.border(59, 4), 1);
        Kit.due("pull", x.pull(0), 39);
        Kit.due("pulled", x.border(0, 2), 0);
        Kit.due("pull of 59", x.pull(59), 0);
        Kit.due("raise of 59", x.raise(59), 2);
        Kit.due("raised without gate", x.border(59, 3), 0);
        Kit.due("raised without string", x.border(59, 4), 0);
        Kit.due("acts", x.count(11), 12);
        Kit.due("rows", x.count(10), 8);
    }

    private static void wrongActs() {
        OldFences x = Kit.told("fence 0 1 age 8 high 40;family at 3 climbs 5");
        Kit.dueState("raise of one that is there", () -> x.raise(0));
        Kit.dueState("pull of none", () -> x.pull(1));
        Kit.dueState("gate of none", () -> x.gate(1, false) ? 1 : 0);
        Kit.dueState("string of none", () -> x.string(1, false) ? 1 : 0);
        Kit.dueState("again of none", () -> x.again(1, 0));
        Kit.dueState("again, higher", () -> x.again(0, 41));
        Kit.dueArgument("again, too high", () -> x.again(1, 1000));
        Kit.dueArgument("again, below 0", () -> x.again(0, -1));
        for (int b : new int[] {-1, 60, Integer.MIN_VALUE, Integer.MAX_VALUE}) {
            Kit.dueBounds("raise", () -> x.raise(b));
            Kit.dueBounds("pull", () -> x.pull(b));
            Kit.dueBounds("gate", () -> x.gate(b, true) ? 1 : 0);
            Kit.dueBounds("string", () -> x.string(b, true) ? 1 : 0);
            Kit.dueBounds("again", () -> x.again(b, 1000));
            Kit.dueBounds("ahead", () -> x.ahead(b, 101));
            Kit.dueBounds("led", () -> x.led(b, true));
        }
        Kit.dueBounds("forgive", () -> x.forgive(1));
        Kit.dueBounds("move of none", () -> x.move(-1, 0));
        Kit.dueBounds("move to none", () -> x.move(0, 36));
        Kit.dueBounds("learn of none", () -> x.learn(1, 1000));
        Kit.dueArgument("learn, too high", () -> x.learn(0, 1000));
        Kit.dueArgument("learn, below 0", () -> x.learn(0, -1));
        Kit.dueArgument("years(0)", () -> x.years(0));
        Kit.dueArgument("years(101)", () -> x.years(101));
        Kit.dueArgument("years(-1)", () -> x.years(-1));
        Kit.due("a call that throws is no act", x.count(11), 0);
        Kit.due("nor in the log", x.count(10), 0);
        Kit.due("nothing changed", x.border(0, 2), 40);
    }

    private static void families() {
        OldFences x = Kit.told("family at 3 climbs 5 eyes 7;family at 8 climbs 6;fence 3 4 high 7;fence 3 9 high 4 gate");
        Kit.law(x, "sore 4 if across;grow 0");
        Kit.due("tower", x.family(0, 6), 11);
        Kit.due("no tower", x.family(1, 6), 0);
        Kit.county(x, "family at 21 climbs 1;fence 21 20 high 1;fence 21 22 high 10;fence 21 15 high 100;fence 21 27 high 500 gate");
        Kit.due("tower of four sides", x.family(2, 6), 611);
        x.years(3);
        Kit.due("sore", x.family(0, 3), 12);
        Kit.due("forgive", x.forgive(0), 12);
        Kit.due("sore of none", x.family(0, 3), 0);
        Kit.due("forgive again", x.forgive(0), 0);
        Kit.due("move", x.move(0, 35), 3);
        Kit.due("moved", x.family(0, 0), 35);
        Kit.due("move to where it is", x.move(0, 35), 35);
        Kit.due("learn", x.learn(0, 999), 5);
        Kit.due("learned", x.family(0, 1), 999);
        Kit.due("unlearn", x.learn(0, 0), 999);
        Kit.due("eyes stay", x.family(0, 2), 7);
        Kit.due("acts that change nothing are acts, too", x.count(11), 7);
        Kit.dueNoElement("family(0, 9)", () -> x.family(0, 9));
        Kit.dueNoElement("family(0, -1)", () -> x.family(0, -1));
        Kit.dueBounds("family(3, 9)", () -> x.family(3, 9));
        Kit.dueBounds("family(-1, 0)", () -> x.family(-1, 0));
    }

    private static void growing() {
        OldFences x = Kit.told("fence 0 1 age 998 high 998;fence 1 2 high 7 string;fence 2 3 high 5;year 999");
        Kit.due("years without families", x.years(1), 0);
        Kit.due("without a law 1 more", x.border(2, 2), 6);
        Kit.due("a string grows by none", x.border(1, 2), 7);
        Kit.due("a string ages", x.border(1, 1), 1);
        x.years(3);
        Kit.due("999 at most", x.border(0, 2), 999);
        Kit.due("age 999 at most", x.border(0, 1), 999);
        Kit.due("year", x.count(4), 1003);
        Kit.law(x, "sink 4");
        x.years(2);
        Kit.due("sunk", x.border(2, 2), 1);
        x.years(1);
        Kit.due("0 at least", x.border(2, 2), 0);
        Kit.law(x, "grow 5 if age < 8;grow 1 if year > 7 and year < 9");
        x.years(1);
        Kit.due("by the age ahead of the year", x.border(2, 2), 5);
        x.years(1);
        Kit.due("by the age ahead of the next year", x.border(2, 2), 5);
        x.years(1);
        Kit.due("by the year modulo 100", x.border(2, 2), 6);
        Kit.due("year", x.count(4), 1009);
        for (int i = 0; i < 90; i++) {
            x.years(100);
        }
        Kit.due("YEAR 9999 at most", x.count(4), 9999);
    }

    private static void soring() {
        OldFences x = Kit.told("family at 7 climbs 0;family at 8 climbs 0;fence 7 8 high 9;fence 7 1 high 9;fence 7 6 high 9");
        Kit.law(x, "grow 1;sore 3 if high > 9;sore 1 if age > 0 and across;sore 50 if year > 1");
        x.years(1);
        // after the year's growth all are higher than 9 and of age 1, and the year is the old one
        Kit.due("three fences", x.family(0, 3), 10);
        Kit.due("one fence", x.family(1, 3), 3);
        x.years(1);
        Kit.due("three fences", x.family(0, 3), 20);
        x.years(1);
        Kit.due("99 at most", x.family(0, 3), 99);
        Kit.due("56 and 3 more", x.family(1, 3), 59);
        Kit.due("sore together", x.count(9), 158);
        Kit.due("the sorest", x.sorest(), 0);
    }

    private static void quarrels() {
        OldFences x = Kit.told("family at 0 climbs 0;quarrel 100");
        // DRAWS modulo 100, modulo 4 from SEED 1: 38 up, 13 down, 51 down, 10 down, 12 up, 49 down
        Kit.due("years", x.years(6), 1);
        Kit.due("put up below", x.border(30, 0), 1);
        Kit.due("its age", x.border(30, 1), 4);
        Kit.due("its high", x.border(30, 2), 4);
        int[] row = {1, 30, 0, 0, 0};
        for (int what = 0; what < 5; what++) {
            Kit.due("log of a quarrel, " + what, x.log(0, what), row[what]);
        }
        Kit.due("fences", x.count(1), 1);
        Kit.due("rows", x.count(10), 1);
        Kit.due("seed then", x.seed(1), 836760821);
        OldFences calm = Kit.told("family at 14 climbs 0;quarrel 38");
        Kit.due("38 is not below 38", calm.years(1), 0);
        Kit.due("one draw alone", calm.seed(1), 1103527590);
        OldFences sore = Kit.told("family at 14 climbs 0;quarrel 38;fence 14 15 high 3");
        Kit.law(sore, "sore 1");
        Kit.due("38 is below 39", sore.years(1), 1);
        Kit.due("two draws", sore.seed(1), -1770082073);
        Kit.due("put up above", sore.border(38, 0), 1);
        OldFences two = Kit.told("family at 14 climbs 0;family at 14 climbs 0;quarrel 100");
        // 38, up; 13, down
        Kit.due("two families", two.years(1), 2);
        Kit.due("the first one's", two.log(1, 1), 38);
        Kit.due("the other one's", two.log(0, 1), 44);
        Kit.due("of the other one", two.log(0, 3), 1);
        OldFences none = Kit.told("family at 14 climbs 0");
        none.years(100);
        Kit.due("no quarrel without QUARREL and SORE", none.count(1), 0);
        OldFences sides = Kit.told("family at 14 climbs 0;quarrel 100");
        for (int i = 0; i < 20; i++) {
            sides.years(1);
        }
        Kit.due("left", sides.border(11, 0), 1);
        Kit.due("right", sides.border(12, 0), 1);
        Kit.due("up", sides.border(38, 0), 1);
        Kit.due("down", sides.border(44, 0), 1);
        Kit.due("no others", sides.count(1), 4);
    }

    private static void aheadAndTrials() {
        OldFences x = Kit.told("family at 0 climbs 0;family at 14 climbs 0;quarrel 60;fence 0 1 high 990;fence 1 2 high 7 string;fence 1 7 high 5");
        Kit.law(x, "grow 3;sink 5 if across and year > 1;sore 2");
        Kit.due("ahead 0", x.ahead(0, 0), 990);
        Kit.due("ahead 2", x.ahead(0, 2), 996);
        Kit.due("ahead 100", x.ahead(0, 100), 999);
        Kit.due("ahead of a string", x.ahead(1, 100), 7);
        Kit.due("ahead 2 across", x.ahead(31, 2), 11);
        Kit.due("ahead 4 across", x.ahead(31, 4), 7);
        Kit.due("ahead 100 across", x.ahead(31, 100), 0);
        Kit.due("ahead of none", x.ahead(3, 100), 0);
        Kit.dueArgument("ahead 101", () -> x.ahead(0, 101));
        Kit.dueArgument("ahead -1", () -> x.ahead(0, -1));
        Kit.dueArgument("trial 101", () -> x.trial(101, true));
        Kit.dueArgument("trial -1", () -> x.trial(-1, true));
        Kit.dueArgument("span 101", () -> x.span(101, true));
        Kit.dueArgument("span -1", () -> x.span(-1, false));
        Kit.due("trial 0", x.trial(0, false), 3);
        Kit.due("trial 0 high", x.trial(0, true), 1002);
        Kit.due("span 0", x.span(0, true), 3);
        int[] least = {99, 99};
        int[] most = {0, 0};
        for (int seed = 1; seed <= 6; seed++) {
            OldFences y = Kit.told("family at 0 climbs 0;family at 14 climbs 0;quarrel 60;fence 0 1 high 990;fence 1 2 high 7 string;fence 1 7 high 5");
            Kit.law(y, "grow 3;sink 5 if across and year > 1;sore 2");
            y.seed(seed);
            int fences = y.trial(2, false);
            int high = y.trial(2, true);
            Kit.due("years as tried", y.years(2), fences - 3);
            Kit.due("fences as tried", y.count(1), fences);
            Kit.due("high as tried", y.count(8), high);
            least[0] = Math.min(least[0], fences);
            most[0] = Math.max(most[0], fences);
            int later = y.trial(3, false);
            y.years(3);
            Kit.due("from now, by the SEED of now", y.count(1), later);
        }
        spans();
        x.seed(77);
        Kit.due("span least", x.span(2, false), least[0]);
        Kit.due("span greatest", x.span(2, true), most[0]);
        Kit.due("they differ", least[0] < most[0], true);
        Kit.due("the seed stays", x.seed(1), 77);
        Kit.due("the year stays", x.count(4), 0);
        Kit.due("the fences stay", x.count(1), 3);
        Kit.due("the log stays", x.count(10), 0);
        Kit.due("no acts", x.count(11), 0);
    }

    /** The least and the greatest come of each seed in turn, so that none of the six is left out. */
    private static void spans() {
        for (int n = 0; n < 12; n++) {
            OldFences x = Kit.told("family at 8 climbs 0;family at 28 climbs 0;family at 16 climbs 0;quarrel 30");
            int least = 99;
            int most = 0;
            for (int seed = 1; seed <= 6; seed++) {
                x.seed(seed);
                least = Math.min(least, x.trial(n, false));
                most = Math.max(most, x.trial(n, false));
            }
            Kit.due("span least of " + n, x.span(n, false), least);
            Kit.due("span greatest of " + n, x.span(n, true), most);
        }
    }

    private static void logAndLed() {
        OldFences x = Kit.told("year 5;fence 1 2 high 20");
        Kit.due("no rows", x.led(0, false), 0);
        Kit.due("no year", x.led(0, true), -1);
        x.raise(0);
        x.years(2);
        x.again(1, 3);
        x.pull(0);
        int[][] rows = {{7, 0, 2, -1, 2}, {7, 1, 3, -1, 22}, {5, 0, 1, -1, 0}};
        for (int ago = 0; ago < rows.length; ago++) {
            for (int what = 0; what < 5; what++) {
                Kit.due("log(" + ago + ", " + what + ")", x.log(ago, what), rows[ago][what]);
            }
        }
        Kit.due("log of 3 ago", x.log(3, 0), -2);
        Kit.due("log of -1 ago", x.log(-1, 4), -2);
        Kit.due("log of the least ago", x.log(Integer.MIN_VALUE, 4), -2);
        Kit.due("log of the most ago", x.log(Integer.MAX_VALUE, 4), -2);
        Kit.dueNoElement("log(0, 5)", () -> x.log(0, 5));
        Kit.dueNoElement("log(99, -1)", () -> x.log(99, -1));
        Kit.due("led", x.led(0, false), 2);
        Kit.due("led, the year", x.led(0, true), 7);
        Kit.due("gates are in no log", x.gate(1, true), true);
        Kit.due("rows", x.count(10), 3);
        for (int i = 0; i < 30; i++) {
            x.raise(40);
            x.pull(40);
            Kit.due("rows, 60 at most", x.count(10), Math.min(60, 5 + 2 * i));
        }
        Kit.due("the oldest rows are gone", x.led(0, false), 0);
        Kit.due("their year is gone", x.led(0, true), -1);
        Kit.due("60 rows are there", x.led(40, false), 60);
        Kit.due("the latest", x.log(0, 2), 2);
        Kit.due("the 60th", x.log(59, 2), 1);
        Kit.due("none behind it", x.log(60, 2), -2);
    }

    private static void undone() {
        OldFences x = Kit.told("family at 0 climbs 9;quarrel 100;fence 0 1 high 20");
        Kit.due("nothing to undo", x.undo(), false);
        x.years(5);
        x.seed(44);
        x.move(0, 3);
        x.learn(0, 7);
        x.gate(0, false);
        Kit.due("4 acts", x.count(11), 4);
        Kit.due("undo the gate", x.undo(), true);
        Kit.due("climbs still", x.family(0, 1), 7);
        x.undo();
        Kit.due("climbs as they were", x.family(0, 1), 9);
        x.undo();
        Kit.due("home as it was", x.family(0, 0), 0);
        Kit.due("the seed of then", x.seed(45), 44);
        Kit.due("undo the years, as one", x.undo(), true);
        Kit.due("year as it was", x.count(4), 0);
        Kit.due("fences as they were", x.count(1), 1);
        Kit.due("rows as they were", x.count(10), 0);
        Kit.due("high as it was", x.border(0, 2), 20);
        Kit.due("seed as it was", x.seed(1), 1);
        Kit.due("no more", x.undo(), false);
        for (int i = 0; i < 14; i++) {
            x.learn(0, 100 + i);
            Kit.due("12 are remembered", x.count(11), Math.min(12, i + 1));
        }
        for (int i = 13; i > 1; i--) {
            Kit.due("undo " + i, x.undo(), true);
            Kit.due("climbs of " + i, x.family(0, 1), 100 + i - 1);
        }
        Kit.due("the 13th is forgotten", x.undo(), false);
        Kit.due("climbs of the 2nd", x.family(0, 1), 101);
        x.raise(50);
        Kit.feed(x, "year 9");
        Kit.feed(x, "year 1x");
        Kit.dueArgument("a wrong text", () -> x.county());
        Kit.due("a wrong text forgets nothing", x.count(11), 1);
        x.feed(1, 2, 3, 4, 5);
        Kit.due("undo", x.undo(), true);
        Kit.due("the tape stays", x.end(20), true);
        Kit.due("the fault stays", x.fault(), 6);
        x.end(0);
        x.raise(50);
        Kit.county(x, "");
        Kit.due("a text forgets", x.count(11), 0);
        Kit.due("no undo behind a text", x.undo(), false);
        x.pull(50);
        Kit.law(x, "");
        Kit.due("a law forgets", x.undo(), false);
        x.raise(50);
        for (int i = x.count(2); i < 12; i++) {
            Kit.county(x, "");
        }
        x.pull(50);
        Kit.dueThrow("a 13th text", "UnsupportedOperationException", () -> x.county());
        Kit.due("a refused text forgets nothing", x.count(11), 1);
    }

    private static void images() {
        OldFences y = Kit.told("year 3;fence 0 1 high 9");
        y.raise(7);
        y.pull(0);
        y.image();
        y.raise(8);
        y.raise(9);
        y.undo();
        Kit.due("the row of the one that stays", y.log(0, 1), 8);
        y.raise(10);
        Kit.due("the row of the next one", y.log(0, 1), 10);
        Kit.due("the row ahead of it", y.log(1, 1), 8);
        y.back();
        int[] row = {3, 0, 2, -1, 9};
        for (int what = 0; what < 5; what++) {
            Kit.due("the log of then, " + what, y.log(0, what), row[what]);
        }
        Kit.due("the row ahead of it", y.log(1, 1), 7);
        Kit.due("no third row", y.log(2, 1), -2);
        OldFences x = Kit.told("family at 0 climbs 9;fence 0 1 high 20;year 4");
        Kit.law(x, "grow 2");
        x.raise(7);
        Kit.due("no image", x.back(), false);
        Kit.due("nothing happens without one", x.count(11), 1);
        x.image();
        Kit.due("an image is no act", x.count(11), 1);
        Kit.law(x, "grow 1;grow 1;grow 1");
        Kit.county(x, "family at 4 climbs 4;quarrel 3");
        x.years(7);
        x.pull(7);
        x.seed(99);
        Kit.feed(x, "what");
        Kit.dueArgument("a wrong text", () -> x.county());
        x.feed(1, 2, 3, 4, 5);
        Kit.due("back", x.back(), true);
        Kit.due("families", x.count(0), 1);
        Kit.due("fences", x.count(1), 2);
        Kit.due("texts", x.count(2), 1);
        Kit.due("lines", x.count(3), 1);
        Kit.due("year", x.count(4), 4);
        Kit.due("quarrel", x.count(5), 0);
        Kit.due("rows", x.count(10), 1);
        Kit.due("acts", x.count(11), 0);
        Kit.due("high", x.border(0, 2), 20);
        Kit.due("grows", x.border(0, 5), 2);
        Kit.due("seed", x.seed(5), 1);
        Kit.due("the tape stays", x.end(20), true);
        Kit.due("the fault stays", x.fault(), 0);
        Kit.due("no undo", x.undo(), false);
        x.raise(8);
        Kit.due("back again", x.back(), true);
        Kit.due("the image stays", x.count(1), 2);
        Kit.due("back and the seed, too", x.seed(5), 1);
        x.raise(9);
        x.image();
        x.undo();
        Kit.due("undone", x.count(1), 2);
        Kit.due("back to the later image", x.back(), true);
        Kit.due("the later image", x.count(1), 3);
    }
}
