/** Boundary sentences of promise 10: years, how fences grow and age, who gets sore, quarrels and their draws. */
public final class EdgesOfYearsTest {
    private static final int LEFT = 0;
    private static final int RIGHT = 1;
    private static final int UP = 2;
    private static final int DOWN = 3;

    public static void main(String[] args) {
        Edges.run(EdgesOfYearsTest.class);
    }

    // ---- how many years ----

    @Says(promise = 10, sentence = "So many YEARS more (1 to 100): how many FENCES were put up in these.")
    static void oneYearAndAHundred() {
        OldFences x = Kit.told("fence 0 1");
        Kit.due("one year", x.years(1), 0);
        Kit.due("the year then", x.count(4), 1);
        Kit.due("a hundred years", x.years(100), 0);
        Kit.due("the year then", x.count(4), 101);
        Kit.due("high by all of them", x.border(0, 2), 101);
    }

    @Says(promise = 10, sentence = "IllegalArgumentException: they are none.")
    static void noYears() {
        for (int n : new int[] {0, -1, 101, Integer.MIN_VALUE, Integer.MAX_VALUE}) {
            Edges.refused("years(" + n + ")", Edges.ARGUMENT, x -> x.years(n));
        }
    }

    @Says(promise = 10, sentence = "how many FENCES were put up in these")
    static void noMoreFencesThanHaveRoom() {
        OldFences x = Kit.told("family at 14 climbs 0;quarrel 100");
        Kit.due("all four sides", x.years(100), 4);
        Kit.due("none any more", x.years(100), 0);
        x.pull(38);
        Kit.due("the one that was pulled", x.years(100), 1);
        OldFences corner = Kit.told("family at 35 climbs 0;quarrel 100");
        Kit.due("both sides of a corner", corner.years(100), 2);
        OldFences grown = Edges.grown(5);
        Kit.county(grown, "family at 14 climbs 0;quarrel 100");
        Kit.due("none, where all borders have one", grown.years(100), 0);
        Kit.due("sixty as before", grown.count(1), 60);
    }

    @Says(promise = 10, sentence = "YEAR is 1 more (9999 at most).")
    static void theLastYearStays() {
        OldFences x = Kit.told("year 999;fence 0 1;family at 0 climbs 0;quarrel 100");
        for (int i = 0; i < 89; i++) {
            x.years(100);
        }
        x.years(99);
        Kit.due("the last but one", x.count(4), 9998);
        x.years(1);
        Kit.due("the last", x.count(4), 9999);
        x.again(0, 0);
        x.pull(30);
        Kit.due("put up in the last year", x.years(100), 1);
        Kit.due("the last still", x.count(4), 9999);
        Kit.due("the year of the latest row", x.log(0, 0), 9999);
        Kit.due("fences grow on", x.border(0, 2), 100);
        Kit.law(x, "grow 1 if year > 98");
        Kit.due("9999 modulo 100", x.border(0, 5), 1);
    }

    // ---- (a) fences grow and age ----

    @Says(promise = 10, sentence = "HIGH is what it GROWS by more (0 to 999)")
    static void heightsEndAt999() {
        OldFences x = Kit.told("fence 0 1 high 998;fence 1 2 high 999;fence 2 3 high 939;fence 3 4 high 940;fence 4 5 high 938");
        Kit.law(x, "grow 1 if border < 2;grow 60 if border > 1");
        x.years(1);
        int[] due = {999, 999, 999, 999, 998};
        for (int border = 0; border < due.length; border++) {
            Kit.due("high of " + border, x.border(border, 2), due[border]);
        }
        x.years(1);
        Kit.due("999 at most", x.border(4, 2), 999);
    }

    @Says(promise = 10, sentence = "HIGH is what it GROWS by more (0 to 999)")
    static void heightsEndAtZero() {
        OldFences x = Kit.told("fence 0 1 high 61;fence 1 2 high 60;fence 2 3 high 59;fence 3 4 high 1;fence 4 5 high 0");
        Kit.law(x, "sink 60");
        x.years(1);
        int[] due = {1, 0, 0, 0, 0};
        for (int border = 0; border < due.length; border++) {
            Kit.due("high of " + border, x.border(border, 2), due[border]);
            Kit.due("it is there still", x.border(border, 0), 1);
        }
        x.years(100);
        Kit.due("sinks to 0 and stays", x.border(0, 2), 0);
        Kit.law(x, "grow 1");
        x.years(1);
        Kit.due("grows from 0, not from below", x.border(3, 2), 1);
    }

    @Says(promise = 10, sentence = "AGE is 1 more (999 at most)")
    static void agesEndAt999() {
        OldFences x = Kit.told("fence 0 1 age 998;fence 1 2 age 999;fence 2 3 age 0 string;fence 3 4 high 999");
        x.years(1);
        int[] due = {999, 999, 1, 1};
        for (int border = 0; border < due.length; border++) {
            Kit.due("age of " + border, x.border(border, 1), due[border]);
        }
        x.years(100);
        Kit.due("999 at most", x.border(0, 1), 999);
        Kit.due("999 still", x.border(1, 1), 999);
        Kit.due("a string ages", x.border(2, 1), 101);
        Kit.due("none ages where none is", x.border(4, 1), 0);
    }

    @Says(promise = 10, sentence = "HIGH is what it GROWS by more (0 to 999), AGE is 1 more")
    static void growsByTheAgeOfTheYearBefore() {
        OldFences x = Kit.told("fence 0 1");
        Kit.law(x, "grow 5 if age < 1;grow 2 if high > 4");
        x.years(1);
        Kit.due("by age 0 and high 0", x.border(0, 2), 5);
        x.years(1);
        Kit.due("by age 1 and high 5", x.border(0, 2), 7);
    }

    @Says(promise = 10, sentence = "of a STRING always 0")
    static void aStringStaysAsHighAsItIs() {
        OldFences x = Kit.told("fence 0 1 high 5 string;fence 1 2 high 5 string");
        Kit.law(x, "grow 60 if border < 1;sink 60 if border > 0");
        x.years(100);
        Kit.due("it does not grow", x.border(0, 2), 5);
        Kit.due("it does not sink", x.border(1, 2), 5);
    }

    // ---- (b) who gets sore ----

    @Says(promise = 10, sentence = "SORE is more by what FENCES at its HOME (of the BORDERS of its CELL) SORE by, together (99 at most)")
    static void soreEndsAt99() {
        OldFences x = Kit.told("family at 0 climbs 0;family at 3 climbs 0;family at 14 climbs 0;"
                + "fence 0 1;fence 0 6;fence 3 2;fence 3 4;fence 3 9;fence 14 13");
        Kit.law(x, "sore 33");
        x.years(1);
        Kit.due("two fences", x.family(0, 3), 66);
        Kit.due("three fences, just 99", x.family(1, 3), 99);
        Kit.due("one fence", x.family(2, 3), 33);
        x.years(1);
        Kit.due("132 is 99", x.family(0, 3), 99);
        Kit.due("99 still", x.family(1, 3), 99);
        Kit.due("66", x.family(2, 3), 66);
        x.years(1);
        Kit.due("99 by one", x.family(2, 3), 99);
        x.years(100);
        Kit.due("all together", x.count(9), 297);
    }

    @Says(promise = 10, sentence = "what FENCES at its HOME (of the BORDERS of its CELL) SORE by")
    static void fencesOfOtherCellsDoNotSore() {
        OldFences x = Kit.told("family at 0 climbs 0;family at 5 climbs 0;family at 6 climbs 0;family at 35 climbs 0;"
                + "fence 1 2;fence 1 7;fence 4 3;fence 10 11;fence 12 18;fence 7 8;fence 28 34;fence 33 34;fence 23 29");
        Kit.law(x, "sore 60");
        x.years(1);
        for (int family = 0; family < 4; family++) {
            Kit.due("sore of " + family, x.family(family, 3), 0);
        }
    }

    @Says(promise = 10, sentence = "(b) each family, by numbers: SORE is more")
    static void soresByWhatFencesAreThen() {
        OldFences x = Kit.told("family at 0 climbs 0;fence 0 1");
        Kit.law(x, "grow 1;sore 1 if high > 0;sore 2 if age > 0;sore 50 if year > 0");
        x.years(1);
        Kit.due("grown and aged, in the year 0 still", x.family(0, 3), 3);
        x.years(1);
        Kit.due("in the year 1", x.family(0, 3), 56);
    }

    @Says(promise = 10, sentence = "SORE 0 to 99 (0 at first)")
    static void nothingSores() {
        OldFences x = Kit.told("family at 0 climbs 0;fence 0 1;fence 0 6");
        x.years(100);
        Kit.due("without a law", x.family(0, 3), 0);
        Kit.law(x, "sore 60 if gate");
        x.years(100);
        Kit.due("if none holds", x.family(0, 3), 0);
    }

    // ---- (c) quarrels ----

    @Says(promise = 10, sentence = "if DRAW modulo 100 is below QUARREL and its SORE together")
    static void asMuchIsNotBelow() {
        // from SEED 1 the first DRAW modulo 100 is 38
        Kit.due("38 is not below 38", putUp("quarrel 38", "", 1), 0);
        Kit.due("38 is below 39", putUp("quarrel 39", "", 1), 1);
        Kit.due("38 is below 38 and sore 1", putUp("quarrel 38;fence 14 15", "sore 1", 1), 1);
        Kit.due("38 is not below sore 38", putUp("fence 14 15", "sore 38", 1), 0);
        Kit.due("38 is below sore 39", putUp("fence 14 15", "sore 39", 1), 1);
    }

    @Says(promise = 10, sentence = "if DRAW modulo 100 is below QUARREL and its SORE together")
    static void noneAndAllQuarrel() {
        int none = seedOfDraw(0);
        int most = seedOfDraw(99);
        Kit.due("0 is not below 0", putUp("", "", none), 0);
        Kit.due("0 is below 1", putUp("quarrel 1", "", none), 1);
        Kit.due("99 is not below 99", putUp("quarrel 99", "", most), 0);
        Kit.due("99 is below 100", putUp("quarrel 100", "", most), 1);
    }

    private static int seedOfDraw(int hundredths) {
        int seed = 1;
        while (Edges.drawOf(Edges.nextSeed(seed)) % 100 != hundredths) {
            seed++;
        }
        return seed;
    }

    /** How many fences one family in the midst puts up in a year. */
    private static int putUp(String lines, String law, int seed) {
        OldFences x = Kit.told("family at 14 climbs 0", lines);
        Kit.law(x, law);
        x.seed(seed);
        return x.years(1);
    }

    @Says(promise = 10, sentence = "DRAW modulo 4 just then: 0 left, 1 right, 2 up (the row before), 3 down")
    static void eachSide() {
        int[] due = {11, 12, 38, 44};
        for (int side = LEFT; side <= DOWN; side++) {
            OldFences x = Kit.told("family at 14 climbs 0;quarrel 100");
            x.seed(Edges.seedFor(100, side));
            Kit.due("one, side " + side, x.years(1), 1);
            Kit.due("the border of side " + side, x.border(due[side], 0), 1);
            Kit.due("one alone", x.count(1), 1);
        }
    }

    @Says(promise = 10, sentence = "if there is a BORDER without a FENCE, a FENCE (AGE 0, HIGH 0) is put up there")
    static void noBorderAtTheRim() {
        int[][] rims = {{0, LEFT}, {0, UP}, {5, RIGHT}, {5, UP}, {30, LEFT}, {30, DOWN}, {35, RIGHT}, {35, DOWN},
            {6, LEFT}, {11, RIGHT}, {29, RIGHT}, {3, UP}, {33, DOWN}};
        for (int[] rim : rims) {
            OldFences x = Kit.told("family at " + rim[0] + " climbs 0;quarrel 100");
            int seed = Edges.seedFor(100, rim[1]);
            x.seed(seed);
            Kit.due("none at " + rim[0] + ", side " + rim[1], x.years(1), 0);
            Kit.due("no fence", x.count(1), 0);
            Kit.due("no row", x.count(10), 0);
            Kit.due("two draws", x.seed(0), Edges.nextSeed(Edges.nextSeed(seed)));
        }
    }

    @Says(promise = 10, sentence = "if there is a BORDER without a FENCE, a FENCE (AGE 0, HIGH 0) is put up there")
    static void aFenceThatIsThereStays() {
        OldFences x = Kit.told("family at 14 climbs 0;quarrel 100;fence 14 8 age 5 high 30 gate string");
        int seed = Edges.seedFor(100, UP);
        x.seed(seed);
        Kit.due("none put up", x.years(1), 0);
        int[] due = {1, 6, 30, 1, 1};
        for (int what = 0; what < due.length; what++) {
            Kit.due("border(38, " + what + ")", x.border(38, what), due[what]);
        }
        Kit.due("no row", x.count(10), 0);
        Kit.due("two draws", x.seed(0), Edges.nextSeed(Edges.nextSeed(seed)));
    }

    @Says(promise = 10, sentence = "a FENCE (AGE 0, HIGH 0) is put up there")
    static void putUpBehindGrowthAndSores() {
        OldFences x = Kit.told("family at 14 climbs 0;quarrel 100;fence 14 8 age 5 high 30 gate string");
        x.pull(38);
        Kit.law(x, "grow 7;sore 9");
        x.seed(Edges.seedFor(100, UP));
        x.years(1);
        int[] due = {1, 0, 0, 0, 0};
        for (int what = 0; what < due.length; what++) {
            Kit.due("border(38, " + what + ")", x.border(38, what), due[what]);
        }
        Kit.due("it does not sore in its first year", x.family(0, 3), 0);
        x.years(1);
        Kit.due("it grows in the next one", x.border(38, 2), 7);
        Kit.due("and sores", x.family(0, 3), 9);
    }

    @Says(promise = 10, sentence = "(c) each family, by numbers")
    static void oneDrawOfWhoDoesNotQuarrel() {
        OldFences x = Kit.told("family at 14 climbs 0;family at 3 climbs 0;family at 4 climbs 0");
        x.seed(77);
        Kit.due("none quarrels", x.years(2), 0);
        int seed = 77;
        for (int i = 0; i < 6; i++) {
            seed = Edges.nextSeed(seed);
        }
        Kit.due("a draw for each family and year", x.seed(0), seed);
        OldFences none = Kit.told("quarrel 100");
        none.seed(77);
        none.years(100);
        Kit.due("no draw without families", none.seed(0), 77);
    }

    @Says(promise = 10, sentence = "(Each by all as it is then.)")
    static void theNextFamilyFindsTheFence() {
        // both draw the same side of the one home
        int seed = 1;
        while (sideOf(seed, 2) != sideOf(seed, 4)) {
            seed++;
        }
        OldFences x = Kit.told("family at 14 climbs 0;family at 14 climbs 0;quarrel 100");
        x.seed(seed);
        Kit.due("one for both", x.years(1), 1);
        Kit.due("of the first one", x.log(0, 3), 0);
        // the first one draws its right side, the next one its left side: one border
        while (sideOf(seed, 2) != RIGHT || sideOf(seed, 4) != LEFT) {
            seed++;
        }
        OldFences y = Kit.told("family at 14 climbs 0;family at 15 climbs 0;quarrel 100");
        y.seed(seed);
        Kit.due("one between both", y.years(1), 1);
        Kit.due("its border", y.log(0, 1), 12);
        Kit.due("of the first one", y.log(0, 3), 0);
    }

    private static int sideOf(int seed, int draws) {
        int then = seed;
        for (int i = 0; i < draws; i++) {
            then = Edges.nextSeed(then);
        }
        return Edges.drawOf(then) % 4;
    }

    @Says(promise = 10, sentence = "SEED is 1103515245 times SEED and 12345, as an int that goes round; bits 16 to 30")
    static void theSeedGoesRound() {
        int[] seeds = {0, 1, -1, 2, 3, 4, 5, 99, 1000000, Integer.MAX_VALUE, Integer.MIN_VALUE, 1103515245, -123456789};
        for (int seed : seeds) {
            int next = Edges.nextSeed(seed);
            int draw = Edges.drawOf(next) % 100;
            OldFences calm = Kit.told("family at 14 climbs 0;quarrel " + draw);
            calm.seed(seed);
            Kit.due("not below " + draw + " from " + seed, calm.years(1), 0);
            Kit.due("one draw from " + seed, calm.seed(0), next);
            OldFences quarrelling = Kit.told("family at 14 climbs 0;quarrel " + (draw + 1));
            quarrelling.seed(seed);
            Kit.due("below " + (draw + 1) + " from " + seed, quarrelling.years(1), 1);
            Kit.due("two draws from " + seed, quarrelling.seed(0), Edges.nextSeed(next));
        }
    }

    @Says(promise = 10, sentence = "(SEED 1 at first)")
    static void theFirstSeedIsOne() {
        OldFences x = Kit.told("family at 14 climbs 0");
        x.years(1);
        Kit.due("1103515245 and 12345", x.seed(0), 1103527590);
    }
}
