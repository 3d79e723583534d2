import java.util.function.ToLongFunction;

/** Boundary sentences of promises 19 to 36: what is open, ways, sight, pulling and shutting, lands, ladders. */
public final class EdgesOfWaysTest {
    public static void main(String[] args) {
        Edges.run(EdgesOfWaysTest.class);
    }

    private static int bit(boolean is) {
        return is ? 1 : 0;
    }

    /** A call of one number that may be none. */
    private interface OfNumber {
        long on(OldFences x, int number);
    }

    private static void boundsOf(String name, int[] none, OfNumber call) {
        for (int number : none) {
            Edges.refused(name + " of " + number, Edges.BOUNDS, x -> call.on(x, number));
        }
    }

    private static void heightsOf(String name, OfNumber call) {
        for (int height : Edges.NO_HEIGHTS) {
            Edges.refused(name + " of height " + height, Edges.ARGUMENT, x -> call.on(x, height));
        }
        OldFences x = Edges.lively("");
        Kit.dueThrow(name + " of height 0", "nothing", () -> call.on(x, 0));
        Kit.dueThrow(name + " of height 999", "nothing", () -> call.on(x, 999));
    }

    private static void changesNothing(String name, ToLongFunction<OldFences> call) {
        long answer = call.applyAsLong(Edges.lively("year 777"));
        Edges.changesNothing(name, answer, call);
    }

    // ---- 19: open ----

    @Says(promise = 19, sentence = "OPEN of a BORDER for a height: no FENCE, or a GATE, or HIGH at most that.")
    static void asHighIsOpenStill() {
        OldFences x = Kit.told("fence 0 1 high 20;fence 1 2;fence 2 3 high 999;fence 3 4 high 999 gate;fence 34 35 high 1");
        Kit.due("one less", x.open(0, 19), false);
        Kit.due("as high", x.open(0, 20), true);
        Kit.due("one more", x.open(0, 21), true);
        Kit.due("0 of 0", x.open(1, 0), true);
        Kit.due("998 of 999", x.open(2, 998), false);
        Kit.due("999 of 999", x.open(2, 999), true);
        Kit.due("0 by a gate", x.open(3, 0), true);
        Kit.due("0 of 1", x.open(29, 0), false);
        Kit.due("0 without a fence", x.open(4, 0), true);
        x.gate(3, false);
        Kit.due("0 without the gate", x.open(3, 0), false);
        x.pull(2);
        Kit.due("0 where it was pulled", x.open(2, 0), true);
    }

    @Says(promise = 19, sentence = "IllegalArgumentException: the height is none (0 to 999).")
    static void openForNoHeight() {
        heightsOf("open", (x, height) -> bit(x.open(59, height)));
    }

    @Says(promise = 19, sentence = "Of several exceptions the one told first is thrown")
    static void openOfNoBorder() {
        boundsOf("open", Edges.NO_BORDERS, (x, border) -> bit(x.open(border, 0)));
        boundsOf("open too high", Edges.NO_BORDERS, (x, border) -> bit(x.open(border, 1000)));
    }

    // ---- 20: far ----

    @Says(promise = 20, sentence = "COST of a BORDER: 1, if there is no FENCE, or a GATE; else 1 and HIGH by 10, rounded down.")
    static void costsRoundedDown() {
        int[][] due = {{0, 1}, {9, 1}, {10, 2}, {19, 2}, {20, 3}, {99, 10}, {100, 11}, {990, 100}, {999, 100}};
        for (int[] row : due) {
            // the last cell, shut in but for one side
            OldFences x = Kit.told("fence 35 34 high 999;fence 35 29 high " + row[0] + ";family at 29 climbs 999");
            Kit.due("cost of high " + row[0], x.far(0, 35), row[1]);
        }
        OldFences gate = Kit.told("fence 0 1 high 999 gate;family at 0 climbs 0");
        Kit.due("cost of a gate", gate.far(0, 1), 1);
        OldFences none = Kit.told("family at 0 climbs 0");
        Kit.due("cost without a fence", none.far(0, 1), 1);
    }

    @Says(promise = 20, sentence = "the least COST together by BORDERS that are OPEN for its CLIMBS; none.")
    static void farAndNone() {
        OldFences x = Kit.told("fence 0 1 high 20;fence 0 6 high 21;family at 0 climbs 19;family at 0 climbs 20;"
                + "family at 0 climbs 21;family at 35 climbs 19");
        Kit.due("its home", x.far(0, 0), 0);
        Kit.due("shut in", x.far(0, 35), -1);
        Kit.due("shut in from what is beside", x.far(0, 1), -1);
        Kit.due("by the one side", x.far(1, 6), 5);
        Kit.due("by the cheaper side", x.far(2, 6), 3);
        Kit.due("to the other corner", x.far(1, 35), 12);
        Kit.due("shut out", x.far(3, 0), -1);
        Kit.due("all but to the shut corner", x.far(3, 1), 9);
    }

    @Says(promise = 20, sentence = "the least COST together by BORDERS that are OPEN for its CLIMBS")
    static void theLongestWayAround() {
        // a way that winds through all 36 cells
        OldFences x = winding();
        Kit.county(x, "family at 0 climbs 0;family at 0 climbs 998;family at 0 climbs 999");
        Kit.due("through all", x.far(0, 30), 35);
        Kit.due("998 is not 999", x.far(1, 30), 35);
        Kit.due("over all", x.far(2, 30), 35);
        Kit.due("ways to all", x.family(0, 4), 36);
    }

    /** Five rows of fences, each with a gap at one end, from end to end in turn. */
    private static OldFences winding() {
        OldFences x = Kit.told("row 0 high 999;row 1 high 999;row 2 high 999;row 3 high 999;row 4 high 999");
        for (int row = 0; row < 5; row++) {
            x.pull(30 + 6 * row + (row % 2 == 0 ? 5 : 0));
        }
        return x;
    }

    @Says(promise = 20, sentence = "IndexOutOfBoundsException: there is no such CELL, BORDER, family, CORNER.")
    static void farOfNone() {
        boundsOf("far, the family", Edges.NO_FAMILIES, (x, family) -> x.far(family, 0));
        boundsOf("far, the cell", Edges.NO_CELLS, (x, cell) -> x.far(1, cell));
        OldFences empty = new OldFences();
        Kit.dueBounds("far without families", () -> empty.far(0, 0));
        changesNothing("far", x -> x.far(0, 35));
    }

    // ---- 21: meet ----

    @Says(promise = 21, sentence = "MEET of two families: whether both come to the HOME of the other one")
    static void bothMustCome() {
        OldFences x = Kit.told("row 2 high 50;family at 12 climbs 50;family at 18 climbs 49;family at 13 climbs 49;"
                + "family at 35 climbs 50;family at 12 climbs 0");
        Kit.due("one of them comes", x.meet(0, 1), false);
        Kit.due("turned", x.meet(1, 0), false);
        Kit.due("both come", x.meet(0, 3), true);
        Kit.due("neither comes", x.meet(1, 2), false);
        Kit.due("on one side", x.meet(0, 2), true);
        Kit.due("of one home", x.meet(0, 4), true);
    }

    @Says(promise = 21, sentence = "IllegalArgumentException: both are one.")
    static void meetOfOne() {
        Edges.refused("meet(0, 0)", Edges.ARGUMENT, x -> bit(x.meet(0, 0)));
        Edges.refused("meet(1, 1)", Edges.ARGUMENT, x -> bit(x.meet(1, 1)));
    }

    @Says(promise = 21, sentence = "Of several exceptions the one told first is thrown")
    static void meetOfNone() {
        boundsOf("meet, the first", Edges.NO_FAMILIES, (x, family) -> bit(x.meet(family, 0)));
        boundsOf("meet, the other", Edges.NO_FAMILIES, (x, family) -> bit(x.meet(1, family)));
        boundsOf("meet, both", Edges.NO_FAMILIES, (x, family) -> bit(x.meet(family, family)));
        changesNothing("meet", x -> bit(x.meet(0, 1)));
    }

    // ---- 22: halfway ----

    @Says(promise = 22, sentence = "the CELL to which both come with the least FAR of both together (of several the least; none)")
    static void halfwayOfSeveralTheLeast() {
        OldFences x = Kit.told("family at 35 climbs 0;family at 33 climbs 0;family at 0 climbs 0;family at 35 climbs 0");
        Kit.due("33, 34 and 35 are alike", x.halfway(0, 1), 33);
        Kit.due("turned", x.halfway(1, 0), 33);
        Kit.due("all of them are alike", x.halfway(0, 2), 0);
        Kit.due("of one home", x.halfway(0, 3), 35);
    }

    @Says(promise = 22, sentence = "the CELL to which both come")
    static void halfwayWhereBothCome() {
        OldFences x = Kit.told("fence 0 1 high 20;fence 0 6 high 20;fence 35 34 high 20;fence 35 29 high 20;"
                + "family at 0 climbs 19;family at 35 climbs 19;family at 35 climbs 20;family at 0 climbs 20");
        Kit.due("neither leaves its corner", x.halfway(0, 1), -1);
        Kit.due("one does not leave, one does not come", x.halfway(0, 2), 0);
        Kit.due("one does not leave", x.halfway(1, 3), 35);
        Kit.due("both leave", x.halfway(2, 3), 0);
    }

    @Says(promise = 22, sentence = "IllegalArgumentException: both are one.")
    static void halfwayOfOne() {
        Edges.refused("halfway(1, 1)", Edges.ARGUMENT, x -> x.halfway(1, 1));
    }

    @Says(promise = 22, sentence = "Of several exceptions the one told first is thrown")
    static void halfwayOfNone() {
        boundsOf("halfway, the first", Edges.NO_FAMILIES, (x, family) -> x.halfway(family, 0));
        boundsOf("halfway, the other", Edges.NO_FAMILIES, (x, family) -> x.halfway(1, family));
        boundsOf("halfway, both", Edges.NO_FAMILIES, (x, family) -> x.halfway(family, family));
        changesNothing("halfway", x -> x.halfway(0, 1));
    }

    // ---- 23 to 25: sees, waves, hidden ----

    @Says(promise = 23, sentence = "have no FENCE, or one that is HIGH less than its EYES")
    static void asHighAsItsEyesIsTooHigh() {
        OldFences x = Kit.told("family at 12 climbs 0 eyes 20;family at 12 climbs 0;family at 12 climbs 0 eyes 999;"
                + "family at 12 climbs 0 eyes 0;fence 13 14 high 20");
        Kit.due("20 is not less than 20", x.sees(0, 14), false);
        Kit.due("nor what is behind", x.sees(0, 17), false);
        Kit.due("what is ahead", x.sees(0, 13), true);
        Kit.due("20 is less than 60", x.sees(1, 14), true);
        Kit.due("to the row's end", x.sees(1, 17), true);
        x.again(11, 19);
        Kit.due("19 is less than 20", x.sees(0, 14), true);
        Kit.county(x, "fence 13 14 high 60;fence 16 17 high 59 gate");
        Kit.due("60 is not less than 60", x.sees(1, 14), false);
        Kit.due("60 is less than 999", x.sees(2, 17), true);
        Kit.county(x, "fence 13 14 high 999 gate");
        Kit.due("999 is not less than 999, gate or not", x.sees(2, 14), false);
        Kit.county(x, "fence 13 14");
        Kit.due("0 is not less than 0", x.sees(3, 14), false);
        x.pull(11);
        Kit.due("without a fence", x.sees(3, 14), true);
    }

    @Says(promise = 23, sentence = "it is in the row or the column of its HOME (or it is that)")
    static void rowsAndColumnsEndAtTheRim() {
        OldFences x = Kit.told("family at 5 climbs 0;family at 0 climbs 0;family at 35 climbs 0 eyes 0");
        Kit.due("itself", x.sees(0, 5), true);
        Kit.due("itself with eyes 0", x.sees(2, 35), true);
        Kit.due("the whole row", x.sees(0, 0), true);
        Kit.due("the whole column", x.sees(0, 35), true);
        Kit.due("the next row's begin", x.sees(0, 6), false);
        Kit.due("the row, from its begin", x.sees(1, 5), true);
        Kit.due("the column, from its begin", x.sees(1, 30), true);
        Kit.due("aslant", x.sees(1, 7), false);
        Kit.due("the far corner", x.sees(1, 35), false);
        Kit.due("back to the column's begin", x.sees(2, 5), true);
        Kit.due("back to the row's begin", x.sees(2, 30), true);
    }

    @Says(promise = 23, sentence = "all BORDERS between, in a line")
    static void eachBorderBetweenCounts() {
        for (int border : new int[] {0, 2, 4}) {
            OldFences x = Kit.told("family at 0 climbs 0;family at 5 climbs 0;fence 6 7 high 999;fence 0 6 high 999");
            x.raise(border);
            Kit.due("over one of 0, " + border, x.sees(0, 5), true);
            for (int i = 0; i < 6; i++) {
                x.years(10);
            }
            Kit.due("over one of 60, " + border, x.sees(0, 5), false);
            Kit.due("turned, " + border, x.sees(1, 0), false);
        }
    }

    @Says(promise = 23, sentence = "IndexOutOfBoundsException: there is no such CELL, BORDER, family, CORNER.")
    static void seesOfNone() {
        boundsOf("sees, the family", Edges.NO_FAMILIES, (x, family) -> bit(x.sees(family, 0)));
        boundsOf("sees, the cell", Edges.NO_CELLS, (x, cell) -> bit(x.sees(1, cell)));
        changesNothing("sees", x -> bit(x.sees(0, 10)));
    }

    @Says(promise = 24, sentence = "WAVES: pairs of families that SEE the HOME of each other: how many.")
    static void noneToAllWave() {
        OldFences x = new OldFences();
        Kit.due("without families", x.waves(), 0);
        Kit.county(x, "family at 0 climbs 0 eyes 0");
        Kit.due("one alone", x.waves(), 0);
        Kit.county(x, "family at 5 climbs 0 eyes 0");
        Kit.due("two", x.waves(), 1);
        x.raise(2);
        Kit.due("two with a fence between", x.waves(), 0);
        Kit.county(x, "family at 4 climbs 0 eyes 1");
        Kit.due("one that sees the other two, one of them beside it", x.waves(), 1);
        OldFences six = Kit.told("family at 3 climbs 0" + ";family at 3 climbs 0".repeat(5));
        Kit.due("six of one home", six.waves(), 15);
        changesNothing("waves", y -> y.waves());
    }

    @Says(promise = 25, sentence = "HIDDEN: families whose HOME no other one SEES, as bits.")
    static void noneToAllHide() {
        OldFences six = Kit.told("family at 0 climbs 0;family at 7 climbs 0;family at 14 climbs 0;family at 21 climbs 0;"
                + "family at 28 climbs 0;family at 35 climbs 0");
        Kit.due("all six", six.hidden(), 63);
        six.move(5, 29);
        Kit.due("all but the last two", six.hidden(), 15);
        six.move(5, 35);
        six.move(0, 5);
        Kit.due("all but the first and the last", six.hidden(), 30);
        six.move(0, 7);
        Kit.due("all but the two of one home", six.hidden(), 60);
        OldFences one = Kit.told("family at 0 climbs 0");
        Kit.due("one alone", one.hidden(), 1);
        changesNothing("hidden", y -> y.hidden());
    }

    @Says(promise = 25, sentence = "Sets are bits; of none they count for nothing.")
    static void hiddenOfNone() {
        OldFences none = new OldFences();
        Kit.due("without families", none.hidden(), 0);
    }

    // ---- 26: pulls ----

    @Says(promise = 26, sentence = "the fewest FENCES that are not OPEN for it to be pulled")
    static void pullsFromNoneToTen() {
        OldFences x = Edges.grown(30);
        Kit.due("one cell", x.pulls(0, 0, 0), 0);
        Kit.due("the last cell", x.pulls(35, 35, 999), 0);
        Kit.due("from corner to corner", x.pulls(0, 35, 29), 10);
        Kit.due("turned", x.pulls(35, 0, 0), 10);
        Kit.due("if they are open", x.pulls(0, 35, 30), 0);
        x.gate(0, true);
        Kit.due("one of them a gate", x.pulls(0, 35, 0), 9);
        x.pull(1);
        Kit.due("one of them pulled", x.pulls(0, 35, 0), 8);
        OldFences none = new OldFences();
        Kit.due("without fences", none.pulls(0, 35, 0), 0);
    }

    @Says(promise = 26, sentence = "the fewest FENCES that are not OPEN for it to be pulled")
    static void pullsNoneForALongWayAround() {
        OldFences x = winding();
        Kit.due("around", x.pulls(0, 30, 0), 0);
        x.raise(0);
        x.again(0, 0);
        Kit.due("over one of 0", x.pulls(0, 30, 0), 0);
        x.years(1);
        Kit.due("one that shuts the way", x.pulls(0, 30, 0), 1);
    }

    @Says(promise = 26, sentence = "IllegalArgumentException: the height is none.")
    static void pullsOfNone() {
        heightsOf("pulls", (x, height) -> x.pulls(0, 35, height));
        heightsOf("pulls of one cell", (x, height) -> x.pulls(0, 0, height));
        boundsOf("pulls, the first", Edges.NO_CELLS, (x, cell) -> x.pulls(cell, 0, 0));
        boundsOf("pulls, the other", Edges.NO_CELLS, (x, cell) -> x.pulls(0, cell, 0));
        boundsOf("pulls, too high", Edges.NO_CELLS, (x, cell) -> x.pulls(0, cell, 1000));
        changesNothing("pulls", x -> x.pulls(0, 35, 3));
    }

    // ---- 27: lowest ----

    @Says(promise = 27, sentence = "there is a way from the one to the other one by BORDERS that are OPEN for it (0 to 999)")
    static void lowestFromNoneToAll() {
        int[] heights = {0, 1, 2, 30, 511, 512, 513, 998, 999};
        for (int high : heights) {
            OldFences x = Edges.grown(high);
            Kit.due("lowest of " + high, x.lowest(0, 35), high);
            Kit.due("turned, of " + high, x.lowest(35, 0), high);
            Kit.due("one cell, of " + high, x.lowest(35, 35), 0);
        }
        OldFences none = new OldFences();
        Kit.due("without fences", none.lowest(0, 35), 0);
    }

    @Says(promise = 27, sentence = "LOWEST of two CELLS: the least height for which, as all is, there is a way")
    static void lowestByTheLowestSide() {
        OldFences x = Kit.told("fence 0 1 high 999;fence 0 6 high 998");
        Kit.due("the lower one", x.lowest(0, 35), 998);
        x.gate(0, true);
        Kit.due("by the gate", x.lowest(0, 35), 0);
        Kit.due("winding around", winding().lowest(0, 30), 0);
    }

    @Says(promise = 27, sentence = "IndexOutOfBoundsException: there is no such CELL, BORDER, family, CORNER.")
    static void lowestOfNone() {
        boundsOf("lowest, the first", Edges.NO_CELLS, (x, cell) -> x.lowest(cell, 0));
        boundsOf("lowest, the other", Edges.NO_CELLS, (x, cell) -> x.lowest(35, cell));
        changesNothing("lowest", x -> x.lowest(0, 35));
    }

    // ---- 28: closes ----

    @Says(promise = 28, sentence = "none of one CELL")
    static void closesOfOneCell() {
        OldFences x = Edges.grown(30);
        for (int cell = 0; cell < 36; cell++) {
            Kit.due("closes(" + cell + ", " + cell + ", 0)", x.closes(cell, cell, 0), -1);
        }
        Kit.due("open", x.closes(14, 14, 999), -1);
    }

    @Says(promise = 28, sentence = "the fewest BORDERS that are OPEN for it to be shut so that there is no way any more")
    static void closesFromNoneToFour() {
        OldFences x = Edges.grown(30);
        Kit.due("no way", x.closes(14, 21, 29), 0);
        Kit.due("no way from corner to corner", x.closes(0, 35, 0), 0);
        Kit.due("in the midst", x.closes(14, 21, 30), 4);
        Kit.due("beside each other", x.closes(14, 15, 999), 4);
        Kit.due("at the rim", x.closes(2, 33, 30), 3);
        Kit.due("a corner", x.closes(0, 21, 30), 2);
        Kit.due("a corner and what is beside", x.closes(35, 34, 30), 2);
        Kit.due("without fences", new OldFences().closes(14, 21, 0), 4);
        OldFences shut = Kit.told("fence 0 1 high 30;fence 34 35 high 29");
        Kit.due("the first border shut", shut.closes(0, 21, 29), 1);
        Kit.due("open again", shut.closes(0, 21, 30), 2);
        Kit.due("the last but one shut", shut.closes(21, 35, 28), 1);
        Kit.due("shut once more", shut.closes(0, 35, 29), 1);
        Kit.due("winding around", winding().closes(0, 30, 0), 1);
        Kit.due("winding around, the last height but one", winding().closes(0, 30, 998), 1);
        Kit.due("winding around, the last height", winding().closes(0, 30, 999), 2);
    }

    @Says(promise = 28, sentence = "IllegalArgumentException: the height is none.")
    static void closesOfNone() {
        heightsOf("closes", (x, height) -> x.closes(0, 35, height));
        heightsOf("closes of one cell", (x, height) -> x.closes(0, 0, height));
        boundsOf("closes, the first", Edges.NO_CELLS, (x, cell) -> x.closes(cell, 0, 0));
        boundsOf("closes, the other", Edges.NO_CELLS, (x, cell) -> x.closes(0, cell, 0));
        boundsOf("closes, both", Edges.NO_CELLS, (x, cell) -> x.closes(cell, cell, 1000));
        changesNothing("closes", x -> x.closes(0, 35, 3));
    }

    // ---- 29 to 34: lands ----

    @Says(promise = 29, sentence = "into how many pieces all CELLS fall by BORDERS that are OPEN for it")
    static void oneLandToThirtySix() {
        OldFences x = Edges.grown(30);
        Kit.due("each cell", x.lands(29), 36);
        Kit.due("each cell at 0", x.lands(0), 36);
        Kit.due("one at 30", x.lands(30), 1);
        Kit.due("one at 999", x.lands(999), 1);
        Kit.due("without fences", new OldFences().lands(0), 1);
        x.gate(59, true);
        Kit.due("one gate", x.lands(0), 35);
    }

    @Says(promise = 30, sentence = "WIDE of a height: CELLS of the greatest such piece.")
    static void theWidestLand() {
        OldFences x = Edges.grown(30);
        Kit.due("one cell", x.wide(29), 1);
        Kit.due("all", x.wide(30), 36);
        x.gate(59, true);
        Kit.due("the last two", x.wide(0), 2);
        Kit.due("without fences", new OldFences().wide(0), 36);
        Kit.due("a line of all", winding().wide(0), 36);
    }

    @Says(promise = 31, sentence = "LAND of a CELL and a height: how many are in its piece.")
    static void theLandOfACell() {
        OldFences x = Edges.grown(30);
        Kit.due("the first cell alone", x.land(0, 29), 1);
        Kit.due("the last cell alone", x.land(35, 0), 1);
        Kit.due("with all others", x.land(35, 30), 36);
        x.gate(59, true);
        Kit.due("with one", x.land(35, 0), 2);
        Kit.due("turned", x.land(29, 0), 2);
        Kit.due("without fences", new OldFences().land(35, 0), 36);
    }

    @Says(promise = 31, sentence = "IndexOutOfBoundsException: there is no such CELL, BORDER, family, CORNER.")
    static void landOfNoCell() {
        boundsOf("land", Edges.NO_CELLS, (x, cell) -> x.land(cell, 0));
        boundsOf("land, too high", Edges.NO_CELLS, (x, cell) -> x.land(cell, 1000));
    }

    @Says(promise = 32, sentence = "BORDERS OPEN for it by each of whose shutting, alone, there would be one LAND more: how many")
    static void noGapsToThirtyFive() {
        OldFences x = Edges.grown(30);
        Kit.due("none is open", x.gaps(29), 0);
        Kit.due("all are open", x.gaps(30), 0);
        Kit.due("without fences", new OldFences().gaps(0), 0);
        x.gate(0, true);
        Kit.due("one gate", x.gaps(0), 1);
        x.gate(59, true);
        Kit.due("two gates", x.gaps(29), 2);
        Kit.due("two gates at 30", x.gaps(30), 0);
        Kit.due("a line of 36 cells", winding().gaps(0), 35);
    }

    @Says(promise = 33, sentence = "whether all HOMES are in one piece (true without families)")
    static void allWithoutFamiliesAndWithSix() {
        OldFences x = Edges.grown(30);
        Kit.due("without families", x.all(0), true);
        Kit.county(x, "family at 35 climbs 0");
        Kit.due("one family", x.all(0), true);
        Kit.county(x, "family at 35 climbs 0;family at 35 climbs 0;family at 35 climbs 0;family at 35 climbs 0;"
                + "family at 35 climbs 0");
        Kit.due("six of one home", x.all(0), true);
        x.move(5, 34);
        Kit.due("the last one elsewhere", x.all(29), false);
        Kit.due("at 30", x.all(30), true);
        x.move(5, 35);
        x.move(0, 0);
        Kit.due("the first one elsewhere", x.all(29), false);
    }

    @Says(promise = 34, sentence = "REACH: the least height (0 to 999) for which it is.")
    static void reachFromNoneToAll() {
        for (int high : new int[] {0, 1, 2, 511, 512, 998, 999}) {
            OldFences x = Edges.grown(high);
            Kit.due("without families, " + high, x.reach(), 0);
            Kit.county(x, "family at 0 climbs 0");
            Kit.due("one family, " + high, x.reach(), 0);
            Kit.county(x, "family at 35 climbs 0");
            Kit.due("two families, " + high, x.reach(), high);
            x.move(1, 0);
            Kit.due("of one home, " + high, x.reach(), 0);
        }
        changesNothing("reach", x -> x.reach());
    }

    @Says(promise = 29, sentence = "IllegalArgumentException: the height is none.")
    static void landsOfNoHeight() {
        heightsOf("lands", (x, height) -> x.lands(height));
        changesNothing("lands", x -> x.lands(3));
    }

    @Says(promise = 30, sentence = "IllegalArgumentException: the height is none.")
    static void wideOfNoHeight() {
        heightsOf("wide", (x, height) -> x.wide(height));
        changesNothing("wide", x -> x.wide(3));
    }

    @Says(promise = 31, sentence = "IllegalArgumentException: the height is none.")
    static void landOfNoHeight() {
        heightsOf("land", (x, height) -> x.land(35, height));
        changesNothing("land", x -> x.land(0, 3));
    }

    @Says(promise = 32, sentence = "IllegalArgumentException: the height is none.")
    static void gapsOfNoHeight() {
        heightsOf("gaps", (x, height) -> x.gaps(height));
        changesNothing("gaps", x -> x.gaps(3));
    }

    @Says(promise = 33, sentence = "IllegalArgumentException: the height is none.")
    static void allOfNoHeight() {
        heightsOf("all", (x, height) -> bit(x.all(height)));
        OldFences none = new OldFences();
        Kit.dueArgument("all of 1000 without families", () -> bit(none.all(1000)));
        changesNothing("all", x -> bit(x.all(3)));
    }

    // ---- 35 and 36: ladders ----

    @Says(promise = 35, sentence = "by which one can come from each HOME to each other one (0 without families)")
    static void laddersFromNoneToSix() {
        OldFences x = Edges.grown(999);
        Kit.due("without families", x.ladders(), 0);
        Kit.county(x, "family at 0 climbs 999");
        Kit.due("one family", x.ladders(), 0);
        Kit.county(x, "family at 0 climbs 999");
        Kit.due("two of one home", x.ladders(), 0);
        x.move(1, 35);
        Kit.due("from corner to corner", x.ladders(), 9990);
        Kit.county(x, "family at 30 climbs 0;family at 5 climbs 0;family at 0 climbs 0;family at 35 climbs 0");
        Kit.due("all four corners", x.ladders(), 15 * 999);
        for (int family = 0; family < 6; family++) {
            x.move(family, family);
        }
        Kit.due("six in a row", x.ladders(), 5 * 999);
    }

    @Says(promise = 35, sentence = "a BORDER that is OPEN for height 0 costs nothing, another one a ladder, which costs HIGH")
    static void whatIsOpenForZeroCostsNothing() {
        OldFences x = Edges.grown(0);
        Kit.county(x, "family at 0 climbs 0;family at 35 climbs 0");
        Kit.due("high 0", x.ladders(), 0);
        Kit.due("high 0, one", x.one(0, 35), 0);
        x.years(1);
        Kit.due("high 1", x.ladders(), 10);
        Kit.due("high 1, one", x.one(0, 35), 10);
        x.gate(0, true);
        Kit.due("one gate", x.ladders(), 9);
        Kit.due("without fences", new OldFences().one(0, 35), 0);
        changesNothing("ladders", y -> y.ladders());
    }

    @Says(promise = 36, sentence = "ONE of two CELLS: the least cost by which one can come from the one to the other one.")
    static void oneFromNoneToAll() {
        OldFences x = Edges.grown(999);
        Kit.due("one cell", x.one(35, 35), 0);
        Kit.due("beside", x.one(35, 34), 999);
        Kit.due("from corner to corner", x.one(35, 0), 9990);
        Kit.due("around costs nothing", winding().one(0, 30), 0);
    }

    @Says(promise = 36, sentence = "IndexOutOfBoundsException: there is no such CELL, BORDER, family, CORNER.")
    static void oneOfNoCell() {
        boundsOf("one, the first", Edges.NO_CELLS, (x, cell) -> x.one(cell, 0));
        boundsOf("one, the other", Edges.NO_CELLS, (x, cell) -> x.one(35, cell));
        changesNothing("one", x -> x.one(0, 35));
    }
}
