/** Boundary sentences of promises 9, 42 to 45, 48 and 49: what a family has, pairs, choices, odds. */
public final class EdgesOfFamiliesTest {
    private static final String SIX = "family at 0 climbs 0" + ";family at 0 climbs 0".repeat(5);

    public static void main(String[] args) {
        Edges.run(EdgesOfFamiliesTest.class);
    }

    // ---- 9: family ----

    @Says(promise = 9, sentence = "FAMILIES (at most 6, numbered from 0 on)")
    static void noFamilyYetAndAllSix() {
        OldFences x = new OldFences();
        Kit.dueBounds("family(0, 0) of none", () -> x.family(0, 0));
        Kit.county(x, "family at 4 climbs 0");
        Kit.due("the first", x.family(0, 0), 4);
        Kit.dueBounds("family(1, 0) of one", () -> x.family(1, 0));
        Kit.county(x, "family at 5 climbs 0;family at 6 climbs 0;family at 7 climbs 0;family at 8 climbs 0;family at 9 climbs 0");
        for (int family = 0; family < 6; family++) {
            Kit.due("home of " + family, x.family(family, 0), 4 + family);
        }
        Kit.dueBounds("family(6, 0) of six", () -> x.family(6, 0));
    }

    @Says(promise = 9, sentence = "IndexOutOfBoundsException: there is no such CELL, BORDER, family, CORNER.")
    static void noSuchFamily() {
        for (int family : Edges.NO_FAMILIES) {
            Edges.refused("family(" + family + ", 0)", Edges.BOUNDS, x -> x.family(family, 0));
            Edges.refused("family(" + family + ", 9)", Edges.BOUNDS, x -> x.family(family, 9));
        }
    }

    @Says(promise = 9, sentence = "8 GIVES (NONE). NoSuchElementException: another what.")
    static void anotherWhat() {
        for (int what : new int[] {-1, 9, Integer.MIN_VALUE, Integer.MAX_VALUE}) {
            Edges.refused("family(1, " + what + ")", Edges.NO_ELEMENT, x -> x.family(1, what));
        }
        for (int what = 0; what <= 8; what++) {
            int asked = what;
            long answer = Edges.lively("").family(1, what);
            Edges.changesNothing("family(1, " + what + ")", answer, x -> x.family(1, asked));
        }
    }

    @Says(promise = 9, sentence = "CELLS to which it comes from its HOME by BORDERS that are OPEN for its CLIMBS: how many, HOME, too.")
    static void waysFromItsHomeAloneToAll() {
        OldFences x = Edges.grown(30);
        Kit.county(x, "family at 35 climbs 29;family at 35 climbs 30");
        Kit.due("its home alone", x.family(0, 4), 1);
        Kit.due("all", x.family(1, 4), 36);
        x.gate(59, true);
        Kit.due("its home and one more", x.family(0, 4), 2);
        x.learn(0, 0);
        Kit.due("by a gate for climbs 0", x.family(0, 4), 2);
        x.learn(0, 999);
        Kit.due("climbs 999", x.family(0, 4), 36);
    }

    @Says(promise = 9, sentence = "PART of a family: WAYS in hundredths of all 36 CELLS, rounded down.")
    static void partsRoundedDown() {
        OldFences x = Edges.grown(30);
        Kit.county(x, "family at 0 climbs 0;family at 0 climbs 30");
        Kit.due("1 of 36", x.family(0, 5), 2);
        Kit.due("36 of 36", x.family(1, 5), 100);
        int[] due = {5, 8, 11, 13, 16};
        for (int border = 0; border < 5; border++) {
            x.gate(border, true);
            Kit.due(border + 2 + " of 36", x.family(0, 5), due[border]);
        }
        OldFences all = Kit.told("fence 0 1 high 9;fence 0 6 high 9;family at 35 climbs 8");
        Kit.due("35 of 36", all.family(0, 5), 97);
    }

    @Says(promise = 9, sentence = "TOWER: HIGH of FENCES at a HOME together.")
    static void towersOfTwoToFourSides() {
        OldFences x = Edges.grown(999);
        Kit.county(x, "family at 0 climbs 0;family at 35 climbs 0;family at 3 climbs 0;family at 14 climbs 0");
        int[] due = {1998, 1998, 2997, 3996};
        for (int family = 0; family < due.length; family++) {
            Kit.due("tower of " + family, x.family(family, 6), due[family]);
        }
        OldFences none = Kit.told("family at 14 climbs 0;fence 15 16 high 9;fence 2 3 high 9");
        Kit.due("no tower", none.family(0, 6), 0);
        none.raise(12);
        Kit.due("a tower of 0", none.family(0, 6), 0);
    }

    @Says(promise = 9, sentence = "(X and Y apart, together; of as near ones the least family)")
    static void sharesFromNoneToAll() {
        OldFences x = Kit.told(SIX);
        Kit.due("all for the least", x.family(0, 7), 36);
        for (int family = 1; family < 6; family++) {
            Kit.due("none for " + family, x.family(family, 7), 0);
        }
        x.move(0, 35);
        // the fifteen cells nearer to 0, and the six between them go to the least family: 35's
        Kit.due("the last cell's", x.family(0, 7), 21);
        Kit.due("the first cell's, the least of five", x.family(1, 7), 15);
        Kit.due("the next of five", x.family(2, 7), 0);
        x.move(0, 0);
        x.move(5, 35);
        Kit.due("the cells between go to the least family: 0's", x.family(0, 7), 21);
        Kit.due("the last family's", x.family(5, 7), 15);
    }

    @Says(promise = 9, sentence = "CELLS that are nearer to its HOME than to that of any other one (X and Y apart, together")
    static void sharesOfWhoLivesAside() {
        // the first cell is nearer to itself alone than to the one beside it; a column is split by its middle
        OldFences x = Kit.told("family at 0 climbs 0;family at 1 climbs 0");
        Kit.due("its own column", x.family(0, 7), 6);
        Kit.due("the other five columns", x.family(1, 7), 30);
        x.move(1, 6);
        Kit.due("its own row", x.family(0, 7), 6);
        Kit.due("the other five rows", x.family(1, 7), 30);
        x.move(1, 3);
        Kit.due("two columns", x.family(0, 7), 12);
        x.move(0, 35);
        x.move(1, 29);
        Kit.due("the last row", x.family(0, 7), 6);
        Kit.due("all but the last row", x.family(1, 7), 30);
        x.move(1, 33);
        Kit.due("the last two columns, of which one is as near", x.family(0, 7), 12);
    }

    @Says(promise = 9, sentence = "by whose pulling its WAYS are the most (more than now; of several the least; none)")
    static void givesOfNone() {
        OldFences x = Kit.told("family at 0 climbs 30");
        Kit.due("without fences", x.family(0, 8), -1);
        Kit.county(x, "fence 0 1 high 30;fence 0 6 high 30");
        Kit.due("if all are open", x.family(0, 8), -1);
        Kit.county(x, "fence 0 1 high 31");
        Kit.due("if there is another way", x.family(0, 8), -1);
        Kit.county(x, "fence 0 6 high 31");
        Kit.due("of two the least", x.family(0, 8), 0);
        x.gate(30, true);
        Kit.due("with a gate", x.family(0, 8), -1);
        x.gate(30, false);
        x.learn(0, 31);
        Kit.due("if it climbs as high", x.family(0, 8), -1);
    }

    @Says(promise = 9, sentence = "GIVES of a family: the BORDER with a FENCE not OPEN for its CLIMBS")
    static void givesTheMost() {
        OldFences x = Edges.grown(30);
        Kit.county(x, "family at 35 climbs 29;family at 0 climbs 29");
        Kit.due("of two the least, the last cell", x.family(0, 8), 29);
        Kit.due("of two the least, the first cell", x.family(1, 8), 0);
        x.gate(53, true);
        Kit.due("two cells are more than one", x.family(0, 8), 59);
        x.gate(28, true);
        Kit.due("two and two: the least", x.family(0, 8), 29);
        x.gate(47, true);
        Kit.due("three are more than two", x.family(0, 8), 59);
    }

    // ---- 42: loses ----

    @Says(promise = 42, sentence = "how many CELLS fewer it has WAYS to, if that BORDER was shut")
    static void losesFromNoneToThirtyFive() {
        OldFences x = Kit.told("fence 0 1 high 31;family at 0 climbs 30;family at 35 climbs 30;family at 0 climbs 31");
        Kit.due("all but its home", x.loses(0, 30), 35);
        Kit.due("the corner", x.loses(1, 30), 1);
        Kit.due("none by another way", x.loses(2, 30), 0);
        Kit.due("none by a far border", x.loses(0, 59), 0);
        x.years(1);
        Kit.due("none that is lost already", x.loses(0, 0), 0);
    }

    @Says(promise = 42, sentence = "LOSES (0, if it is not OPEN for its CLIMBS).")
    static void losesNoneByWhatIsShut() {
        OldFences x = Kit.told("fence 0 1 high 31;fence 0 6 high 30;family at 0 climbs 30");
        Kit.due("one that is shut", x.loses(0, 0), 0);
        Kit.due("one as high as it climbs", x.loses(0, 30), 35);
        x.learn(0, 29);
        Kit.due("one inch higher", x.loses(0, 30), 0);
        x.gate(30, true);
        Kit.due("a gate", x.loses(0, 30), 35);
    }

    @Says(promise = 42, sentence = "IndexOutOfBoundsException: there is no such CELL, BORDER, family, CORNER.")
    static void losesOfNone() {
        for (int family : Edges.NO_FAMILIES) {
            Edges.refused("loses(" + family + ", 0)", Edges.BOUNDS, x -> x.loses(family, 0));
        }
        for (int border : Edges.NO_BORDERS) {
            Edges.refused("loses(1, " + border + ")", Edges.BOUNDS, x -> x.loses(1, border));
        }
        Edges.changesNothing("loses(0, 59)", 0, x -> x.loses(0, 59));
    }

    // ---- 43: pairs ----

    private static void duePairs(OldFences x, int pairs, int... partners) {
        Kit.due("pairs(-1)", x.pairs(-1), pairs);
        for (int family = 0; family < partners.length; family++) {
            Kit.due("pairs(" + family + ")", x.pairs(family), partners[family]);
        }
    }

    @Says(promise = 43, sentence = "PAIRS: how many (family NONE), or with whom one is; NONE.")
    static void fromNoFamilyToSix() {
        OldFences x = new OldFences();
        duePairs(x, 0);
        Kit.dueBounds("pairs(0) of none", () -> x.pairs(0));
        Kit.county(x, "family at 0 climbs 0");
        duePairs(x, 0, -1);
        Kit.county(x, "family at 35 climbs 0");
        duePairs(x, 1, 1, 0);
        Kit.county(x, "family at 35 climbs 0");
        duePairs(x, 1, -1, 2, 1);
        OldFences six = Kit.told(SIX);
        duePairs(six, 3, 1, 0, 3, 2, 5, 4);
    }

    @Says(promise = 43, sentence = "none that do not MEET, so that as many as can be are put")
    static void noneThatDoNotMeet() {
        OldFences x = Edges.grown(30);
        Kit.county(x, "family at 0 climbs 29;family at 35 climbs 30;family at 5 climbs 30;family at 14 climbs 29");
        duePairs(x, 1, -1, 2, 1, -1);
        x.learn(1, 29);
        duePairs(x, 0, -1, -1, -1, -1);
        x.learn(1, 999);
        x.learn(3, 999);
        x.learn(0, 30);
        duePairs(x, 2, 3, 2, 1, 0);
    }

    @Says(promise = 43, sentence = "in the first such way (family by family, none behind all others)")
    static void noneIsBehindAllOthers() {
        OldFences x = Kit.told("family at 0 climbs 0;family at 0 climbs 0;family at 0 climbs 0");
        duePairs(x, 1, 1, 0, -1);
        OldFences five = Kit.told("family at 0 climbs 0" + ";family at 0 climbs 0".repeat(4));
        duePairs(five, 2, 1, 0, 3, 2, -1);
        // as near to one another all around: the first one goes with the least of the others
        OldFences ring = Kit.told("family at 14 climbs 0;family at 15 climbs 0;family at 20 climbs 0;family at 21 climbs 0");
        duePairs(ring, 2, 1, 0, 3, 2);
        OldFences near = Kit.told("family at 14 climbs 0;family at 14 climbs 0;family at 15 climbs 0;"
                + "family at 17 climbs 0");
        duePairs(near, 2, 1, 0, 3, 2);
        OldFences line = Kit.told("family at 1 climbs 0;family at 0 climbs 0;family at 2 climbs 0");
        duePairs(line, 1, 1, 0, -1);
    }

    @Says(promise = 43, sentence = "FARS of the lesser one to the HOME of the other one are together the least")
    static void theLeastFarsOfTheLesserOne() {
        // over the fence of 20 for 3, over the one of 9 and on for 2; then over one of 19 for 2
        OldFences x = Kit.told("family at 0 climbs 999;family at 1 climbs 999;family at 12 climbs 999;fence 0 1 high 20;"
                + "fence 0 6 high 9");
        duePairs(x, 1, 2, -1, 0);
        Kit.county(x, "fence 0 1 high 19");
        duePairs(x, 1, 1, 0, -1);
    }

    @Says(promise = 43, sentence = "IndexOutOfBoundsException: there is no such CELL, BORDER, family, CORNER.")
    static void pairsOfNone() {
        for (int family : new int[] {-2, 2, 6, Integer.MIN_VALUE, Integer.MAX_VALUE}) {
            Edges.refused("pairs(" + family + ")", Edges.BOUNDS, x -> x.pairs(family));
        }
        Edges.changesNothing("pairs(-1)", Edges.lively("").pairs(-1), x -> x.pairs(-1));
    }

    // ---- 44: rests ----

    @Says(promise = 44, sentence = "who pulls alone has 0 less SORE by 10, rounded down, and 1")
    static void soreByTensRoundedDown() {
        OldFences x = Kit.told("family at 0 climbs 0;family at 0 climbs 0;fence 0 1");
        Kit.due("sore 0: 1 is more than 0", x.rests(0, 1), 1);
        Kit.law(x, "sore 9 if border < 1");
        x.years(1);
        Kit.due("sore 9: 1 still", x.rests(0, 1), 1);
        Kit.law(x, "sore 1 if border < 1");
        x.years(1);
        Kit.due("sore 10: 0 is not more than 0", x.rests(0, 1), 9);
        x.forgive(1);
        Kit.due("the other one has 1", x.rests(0, 1), 1);
        Kit.due("the other one first", x.rests(1, 0), 1);
        Kit.law(x, "sore 60 if border < 1");
        x.years(2);
        Kit.due("sore 99: below 0", x.rests(0, 1), 9);
    }

    @Says(promise = 44, sentence = "if both keep, each has CLIMBS by 100, rounded down")
    static void climbsByHundredsRoundedDown() {
        OldFences x = Kit.told("family at 0 climbs 99;family at 35 climbs 100;family at 7 climbs 999;family at 8 climbs 199");
        Kit.due("99 is 0", x.rests(0, 1), 1);
        Kit.due("99 is 0, turned", x.rests(1, 0), 1);
        Kit.due("100 is 1, as much as by pulling", x.rests(1, 2), 9);
        Kit.due("199 is 1", x.rests(3, 1), 9);
        x.learn(1, 0);
        Kit.due("0 is 0", x.rests(2, 1), 1);
    }

    @Says(promise = 44, sentence = "IllegalArgumentException: both are one.")
    static void restsOfOne() {
        Edges.refused("rests(0, 0)", Edges.ARGUMENT, x -> x.rests(0, 0));
        Edges.refused("rests(1, 1)", Edges.ARGUMENT, x -> x.rests(1, 1));
    }

    @Says(promise = 44, sentence = "Of several exceptions the one told first is thrown")
    static void restsOfNone() {
        for (int family : Edges.NO_FAMILIES) {
            Edges.refused("rests(" + family + ", 0)", Edges.BOUNDS, x -> x.rests(family, 0));
            Edges.refused("rests(1, " + family + ")", Edges.BOUNDS, x -> x.rests(1, family));
            Edges.refused("rests(" + family + ", " + family + ")", Edges.BOUNDS, x -> x.rests(family, family));
        }
        Edges.changesNothing("rests(0, 1)", Edges.lively("").rests(0, 1), x -> x.rests(0, 1));
    }

    // ---- 45: odds ----

    @Says(promise = 45, sentence = "each by QUARREL and SORE together now (100 at most), in 10000, rounded down each time")
    static void oddsFromSureToNone() {
        int[][] due = {{0, 10000, 10000, 10000, 10000, 10000}, {1, 10000, 9900, 9801, 9702, 9604},
            {33, 10000, 6700, 4489, 3007, 2014}, {99, 10000, 100, 1, 0, 0}, {100, 10000, 0, 0, 0, 0}};
        for (int[] row : due) {
            OldFences x = Kit.told("family at 0 climbs 0;quarrel " + row[0]);
            for (int n = 0; n <= 4; n++) {
                Kit.due("odds(0, " + n + ") by " + row[0], x.odds(0, n), row[n + 1]);
            }
        }
    }

    @Says(promise = 45, sentence = "each by QUARREL and SORE together now (100 at most)")
    static void quarrelAndSoreTogetherAreAHundredAtMost() {
        OldFences x = Kit.told("family at 0 climbs 0;family at 35 climbs 0;fence 0 1 high 5");
        Kit.law(x, "sore 49 if border < 1");
        x.years(2);
        Kit.county(x, "quarrel 1");
        Kit.due("99", x.odds(0, 1), 100);
        Kit.due("1", x.odds(1, 1), 9900);
        Kit.county(x, "quarrel 2");
        Kit.due("100", x.odds(0, 1), 0);
        Kit.county(x, "quarrel 3");
        Kit.due("101 is 100", x.odds(0, 1), 0);
        Kit.due("101 is 100, two years", x.odds(0, 2), 0);
        Kit.county(x, "quarrel 100");
        Kit.due("198 is 100", x.odds(0, 4), 0);
        Kit.due("in no year", x.odds(0, 0), 10000);
    }

    @Says(promise = 45, sentence = "ODDS of a family, N YEARS (0 to 4)")
    static void oddsOfNoYears() {
        for (int n : new int[] {-1, 5, Integer.MIN_VALUE, Integer.MAX_VALUE}) {
            Edges.refused("odds(1, " + n + ")", Edges.ARGUMENT, x -> x.odds(1, n));
        }
        Edges.changesNothing("odds(1, 0)", 10000, x -> x.odds(1, 0));
        Edges.changesNothing("odds(1, 4)", Edges.lively("").odds(1, 4), x -> x.odds(1, 4));
    }

    @Says(promise = 45, sentence = "Of several exceptions the one told first is thrown")
    static void oddsOfNoFamily() {
        for (int family : Edges.NO_FAMILIES) {
            Edges.refused("odds(" + family + ", 1)", Edges.BOUNDS, x -> x.odds(family, 1));
            Edges.refused("odds(" + family + ", 5)", Edges.BOUNDS, x -> x.odds(family, 5));
        }
    }

    // ---- 48: sorest ----

    @Says(promise = 48, sentence = "SOREST: the family of the most SORE (of several the least; none, if it is 0).")
    static void sorestOfNoneAndOfSeveral() {
        OldFences x = new OldFences();
        Kit.due("without families", x.sorest(), -1);
        Kit.county(x, "family at 35 climbs 0;family at 0 climbs 0;family at 0 climbs 0;fence 0 1");
        Kit.due("none is sore", x.sorest(), -1);
        Kit.law(x, "sore 1 if border < 1");
        x.years(1);
        Kit.due("sore by 1, of two the least", x.sorest(), 1);
        x.forgive(1);
        Kit.due("the other one", x.sorest(), 2);
        x.years(98);
        Kit.due("99 is more than 98", x.sorest(), 2);
        x.years(1);
        Kit.due("99 of both", x.sorest(), 1);
        x.forgive(1);
        x.forgive(2);
        Kit.due("forgiven", x.sorest(), -1);
        Edges.changesNothing("sorest", Edges.lively("").sorest(), y -> y.sorest());
    }

    @Says(promise = 48, sentence = "SOREST: the family of the most SORE")
    static void sorestOfTheFirstAndTheLast() {
        OldFences x = Kit.told(SIX + ";fence 0 1");
        Kit.due("none of six is sore", x.sorest(), -1);
        Kit.law(x, "sore 1 if border < 1");
        x.years(1);
        Kit.due("of six the least", x.sorest(), 0);
        for (int family = 0; family < 5; family++) {
            x.forgive(family);
        }
        Kit.due("the last one", x.sorest(), 5);
        x.forgive(5);
        Kit.due("none", x.sorest(), -1);
    }

    // ---- 49: twins ----

    @Says(promise = 49, sentence = "TWINS: pairs of families of like CLIMBS and EYES: how many.")
    static void twinsFromNoneToFifteen() {
        OldFences x = new OldFences();
        Kit.due("without families", x.twins(), 0);
        Kit.county(x, "family at 0 climbs 7");
        Kit.due("one", x.twins(), 0);
        Kit.county(x, "family at 1 climbs 7 eyes 61;family at 2 climbs 8");
        Kit.due("alike in one thing alone", x.twins(), 0);
        x.learn(2, 7);
        Kit.due("alike in both", x.twins(), 1);
        Kit.due("six alike", Kit.told(SIX).twins(), 15);
        OldFences two = Kit.told("family at 1 climbs 0 eyes 999;family at 2 climbs 999 eyes 0");
        Kit.due("turned about", two.twins(), 0);
        Edges.changesNothing("twins", Edges.lively("").twins(), y -> y.twins());
    }
}
