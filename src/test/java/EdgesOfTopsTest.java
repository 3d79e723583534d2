/** Boundary sentences of promises 37 to 41: walks along the tops, and what was seen of a fence. */
public final class EdgesOfTopsTest {
    public static void main(String[] args) {
        Edges.run(EdgesOfTopsTest.class);
    }

    // ---- 37: walk ----

    @Says(promise = 37, sentence = "the fewest edges with FENCES that are HIGH at least that, from the one to the other one; none.")
    static void asHighIsHighEnough() {
        OldFences x = Kit.told("row 0 high 20");
        Kit.due("one less", x.walk(7, 13, 19), 6);
        Kit.due("as high", x.walk(7, 13, 20), 6);
        Kit.due("one more", x.walk(7, 13, 21), -1);
        Kit.due("turned", x.walk(13, 7, 20), 6);
        Kit.due("one edge", x.walk(7, 8, 20), 1);
        Kit.due("to where no edge is", x.walk(7, 6, 0), -1);
        OldFences none = new OldFences();
        Kit.due("without fences", none.walk(0, 1, 0), -1);
        OldFences low = Kit.told("fence 0 1");
        Kit.due("high 0 for 0", low.walk(1, 8, 0), 1);
        Kit.due("high 0 for 1", low.walk(1, 8, 1), -1);
        OldFences top = Kit.told("fence 34 35 high 999 gate");
        Kit.due("high 999 for 999, gate or not", top.walk(40, 47, 999), 1);
    }

    @Says(promise = 37, sentence = "WALK of two CORNERS and a height: the fewest edges")
    static void oneCornerTakesNoEdge() {
        OldFences x = new OldFences();
        for (int corner = 0; corner < 49; corner++) {
            Kit.due("walk(" + corner + ", " + corner + ", 999)", x.walk(corner, corner, 999), 0);
        }
    }

    @Says(promise = 37, sentence = "of a BORDER 5 times y and x from the CORNER of x and 1, y, to that of x and 1, y and 1")
    static void theFirstAndLastEdgesDown() {
        int[][] due = {{0, 1, 8}, {4, 5, 12}, {5, 8, 15}, {25, 36, 43}, {29, 40, 47}};
        dueEdges(due);
    }

    @Says(promise = 37, sentence = "of one that is ACROSS from x, y and 1, to x and 1, y and 1")
    static void theFirstAndLastEdgesAcross() {
        int[][] due = {{30, 7, 8}, {35, 12, 13}, {36, 14, 15}, {54, 35, 36}, {59, 40, 41}};
        dueEdges(due);
    }

    private static void dueEdges(int[][] due) {
        for (int[] row : due) {
            OldFences x = new OldFences();
            x.raise(row[0]);
            Kit.due("the edge of " + row[0], x.walk(row[1], row[2], 0), 1);
            Kit.due("turned, of " + row[0], x.walk(row[2], row[1], 0), 1);
            Kit.due("long of " + row[0], x.hangs(0), 1);
            Kit.due("ends of " + row[0], x.ends(0), 2);
        }
    }

    @Says(promise = 37, sentence = "the fewest edges with FENCES that are HIGH at least that")
    static void theShorterOfTwoAndTheLongest() {
        OldFences x = Edges.grown(30);
        Kit.due("down the midst", x.walk(3, 45, 30), 6);
        Kit.due("from rim to rim", x.walk(1, 13, 30), 6);
        Kit.due("from the rim to the rim beside", x.walk(1, 2, 30), 3);
        Kit.due("to the first corner", x.walk(1, 0, 0), -1);
        Kit.due("from the last corner", x.walk(48, 47, 0), -1);
        Kit.due("one edge shorter by none", x.walk(8, 9, 30), 1);
        x.pull(30 + 1);
        Kit.due("around where it was pulled", x.walk(8, 9, 30), 3);
        // winds through all inner corners: 24 edges
        OldFences longest = Kit.told("row 0 high 9;row 1 high 9;row 2 high 9;row 3 high 9;row 4 high 9;fence 10 11 high 9;"
                + "fence 12 13 high 9;fence 22 23 high 9;fence 24 25 high 9");
        for (int row = 0; row < 5; row++) {
            longest.pull(30 + 6 * row);
            longest.pull(35 + 6 * row);
        }
        Kit.due("through all inner corners", longest.walk(8, 40, 9), 24);
    }

    @Says(promise = 37, sentence = "IllegalArgumentException: the height is none.")
    static void walkOfNoHeight() {
        for (int height : Edges.NO_HEIGHTS) {
            Edges.refused("walk of height " + height, Edges.ARGUMENT, x -> x.walk(0, 48, height));
            Edges.refused("walk of one, height " + height, Edges.ARGUMENT, x -> x.walk(0, 0, height));
        }
    }

    @Says(promise = 37, sentence = "CORNERS 0 to 48: seven rows of seven")
    static void walkOfNoCorner() {
        for (int corner : Edges.NO_CORNERS) {
            Edges.refused("walk(" + corner + ", 0, 0)", Edges.BOUNDS, x -> x.walk(corner, 0, 0));
            Edges.refused("walk(48, " + corner + ", 0)", Edges.BOUNDS, x -> x.walk(48, corner, 0));
            Edges.refused("walk(" + corner + ", " + corner + ", 1000)", Edges.BOUNDS, x -> x.walk(corner, corner, 1000));
        }
        Edges.changesNothing("walk(36, 48, 999)", -1, x -> x.walk(36, 48, 999));
    }

    // ---- 38 and 39: hangs, ends ----

    @Says(promise = 38, sentence = "the most edges with FENCES that are HIGH at least that, all of one piece by CORNERS: how many.")
    static void hangsFromNoneToSixty() {
        OldFences x = Edges.grown(30);
        Kit.due("all", x.hangs(0), 60);
        Kit.due("all at 30", x.hangs(30), 60);
        Kit.due("none at 31", x.hangs(31), 0);
        Kit.due("none at 999", x.hangs(999), 0);
        Kit.due("without fences", new OldFences().hangs(0), 0);
        OldFences two = Kit.told("fence 0 1;fence 1 2;fence 2 8");
        Kit.due("the greater of two pieces", two.hangs(0), 2);
        Kit.due("none at 1", two.hangs(1), 0);
    }

    @Says(promise = 39, sentence = "CORNERS at which just one such edge ends: how many.")
    static void endsFromNoneToTwenty() {
        OldFences x = Edges.grown(30);
        Kit.due("along the rim", x.ends(0), 20);
        Kit.due("at 30", x.ends(30), 20);
        Kit.due("none at 31", x.ends(31), 0);
        Kit.due("without fences", new OldFences().ends(0), 0);
        OldFences ring = Kit.told("fence 7 6;fence 7 8;fence 7 1;fence 7 13");
        Kit.due("a ring has none", ring.ends(0), 0);
        ring.pull(ring.between(7, 8));
        Kit.due("an open ring has two", ring.ends(0), 2);
        OldFences star = Kit.told("fence 0 1;fence 0 6;fence 7 1;fence 7 6");
        Kit.due("where four meet none ends", star.ends(0), 4);
    }

    @Says(promise = 38, sentence = "IllegalArgumentException: the height is none.")
    static void hangsOfNoHeight() {
        for (int height : Edges.NO_HEIGHTS) {
            Edges.refused("hangs(" + height + ")", Edges.ARGUMENT, x -> x.hangs(height));
        }
        Edges.changesNothing("hangs(999)", 0, x -> x.hangs(999));
    }

    @Says(promise = 39, sentence = "IllegalArgumentException: the height is none.")
    static void endsOfNoHeight() {
        for (int height : Edges.NO_HEIGHTS) {
            Edges.refused("ends(" + height + ")", Edges.ARGUMENT, x -> x.ends(height));
        }
        Edges.changesNothing("ends(999)", 0, x -> x.ends(999));
    }

    // ---- 40: seen ----

    private static int howMany(int... rows) {
        OldFences x = new OldFences();
        Kit.feed(x, rows);
        return x.seen(false);
    }

    private static int best(int... rows) {
        OldFences x = new OldFences();
        Kit.feed(x, rows);
        return x.seen(true);
    }

    private static int ask(int... rows) {
        OldFences x = new OldFences();
        Kit.feed(x, rows);
        return x.ask();
    }

    @Says(promise = 40, sentence = "the TAPE is not that (none may be told)")
    static void noneMayBeTold() {
        Kit.due("all pairs fit", howMany(), 1000);
        Kit.due("the first of all", best(), 0);
    }

    @Says(promise = 40, sentence = "at most 40 bytes")
    static void fortyBytesAreAll() {
        Kit.due("40 bytes", howMany(new int[40]), 1000);
        Edges.tapeRefused("42 bytes", Edges.ARGUMENT, "\0".repeat(42), 5, x -> x.seen(false));
        Edges.tapeRefused("42 bytes, best", Edges.ARGUMENT, "\0".repeat(42), 5, x -> x.seen(true));
        Edges.tapeRefused("400 bytes", Edges.ARGUMENT, "\0".repeat(400), 5, x -> x.seen(false));
        int[] twenty = new int[40];
        twenty[38] = 99;
        twenty[39] = 2;
        Kit.due("the 20th row counts", howMany(twenty), howMany(99, 2));
    }

    @Says(promise = 40, sentence = "SEEN (of each two bytes: the YEAR, how HIGH; at most 40 bytes)")
    static void eachTwoBytes() {
        for (int bytes : new int[] {1, 3, 39, 41}) {
            Edges.tapeRefused(bytes + " bytes", Edges.ARGUMENT, "\0".repeat(bytes), 5, x -> x.seen(false));
        }
    }

    @Says(promise = 40, sentence = "a YEAR (0 to 99) and how HIGH it was then (0 to 255; each HIGH off by 1 at most, the YEAR as it was)")
    static void yearsAndHeightsOfARow() {
        Kit.due("the year 99, high 255: from 14 by 3", best(99, 255), 143);
        Edges.tapeRefused("the year 100", Edges.ARGUMENT, "\u0064\0", 5, x -> x.seen(false));
        Edges.tapeRefused("the year 255", Edges.ARGUMENT, "\u00ff\0", 5, x -> x.seen(false));
        Edges.tapeRefused("a year 100 behind a right row", Edges.ARGUMENT, "\0\0\u0064\0", 5, x -> x.seen(true));
        Kit.due("the year 0, high 255", howMany(0, 255), 0);
        Kit.due("the year 0, high 0", howMany(0, 0), 1000);
    }

    @Says(promise = 40, sentence = "each HIGH off by 1 at most")
    static void offByOne() {
        // the first three rows leave the pair of 90 by 9 alone: 81 in the year 99
        Kit.due("two less", howMany(90, 0, 91, 9, 92, 18, 99, 79), 0);
        Kit.due("one less", howMany(90, 0, 91, 9, 92, 18, 99, 80), 1);
        Kit.due("as it was", howMany(90, 0, 91, 9, 92, 18, 99, 81), 1);
        Kit.due("one more", howMany(90, 0, 91, 9, 92, 18, 99, 82), 1);
        Kit.due("two more", howMany(90, 0, 91, 9, 92, 18, 99, 83), 0);
        Kit.due("one of 0", howMany(0, 1), 1000);
        Kit.due("two of 0", howMany(0, 2), 0);
    }

    @Says(promise = 40, sentence = "the YEAR in which it was put up (0 to 99) and by how much it grew each year (0 to 9)")
    static void allPairsFromTheFirstToTheLast() {
        Kit.due("from 0 by 9", best(28, 252), 9);
        Kit.due("from 0 by 0, the first of all", best(99, 0), 0);
        Kit.due("by 0 at any time, by 1 from 98 or 99 on, by 2 to 9 from 99 on", howMany(99, 0), 100 + 2 + 8);
        Kit.due("by 0, by 1 from 97 on, by 2 from 98 on, by 3 to 9 from 99 on", howMany(99, 1), 100 + 3 + 2 + 7);
        Kit.due("from 98 by 8 or 9", howMany(99, 9, 98, 0), 2);
        Kit.due("from 98 by 9 alone", best(99, 10, 98, 0), 989);
    }

    @Says(promise = 40, sentence = "it is HIGH 0 in that year and before, then so much more each year")
    static void highZeroInThatYear() {
        Kit.due("0 in 50, 9 in 51", best(50, 0, 51, 9, 52, 18), 509);
        Kit.due("that pair alone", howMany(50, 0, 51, 9, 52, 18), 1);
        Kit.due("0 in the years before", howMany(0, 0, 49, 0, 50, 0, 51, 9, 52, 18), 1);
        Kit.due("not more than 0 in a year before", howMany(49, 2, 50, 0, 51, 9, 52, 18), 0);
        Kit.due("9 in 50 is put up in 49", best(50, 9, 51, 18, 52, 27), 499);
    }

    @Says(promise = 40, sentence = "the first pair (10 times the YEAR and by how much, together; the least); none.")
    static void noneFits() {
        Kit.due("how many", howMany(0, 255), 0);
        Kit.due("best", best(0, 255), -1);
        Kit.due("sinking fits none", best(50, 100, 51, 50), -1);
        Kit.due("best of two years", best(99, 255, 98, 252), 143);
    }

    @Says(promise = 40, sentence = "Uses the TAPE up: SEEN")
    static void seenUsesTheTapeUp() {
        OldFences x = Edges.lively("\u0005\u0005");
        x.seen(false);
        Kit.due("the fault stays", x.fault(), 5);
        Kit.due("the tape is used up", x.end(1), false);
        Edges.alike("seen", x, Edges.lively(""));
    }

    // ---- 41: ask ----

    @Says(promise = 41, sentence = "(of several the least; none with fewer than two)")
    static void fewerThanTwo() {
        Kit.due("none fits", ask(0, 255), -1);
        Kit.due("one fits", howMany(99, 255, 98, 252, 97, 250), 1);
        Kit.due("ask of one", ask(99, 255, 98, 252, 97, 250), -1);
        Kit.due("two fit", howMany(99, 255, 98, 252), 2);
        // by 3 from 14 or by 4 from 35: 3 and 0 in the year 15, and never alike again ahead of 98
        Kit.due("the least year that parts them", ask(99, 255, 98, 252), 15);
    }

    @Says(promise = 41, sentence = "so that the greatest part is the least")
    static void theGreatestPartIsTheLeast() {
        // in the year 99 just 109 of all pairs are 0 high: those that grow by 0 and those of that year
        Kit.due("ask of all", ask(), 99);
        Kit.due("ask of all by a row of year 0", ask(0, 0), 99);
    }

    @Says(promise = 41, sentence = "the TAPE likewise")
    static void askOfWrongRows() {
        for (int bytes : new int[] {1, 39, 41, 42}) {
            Edges.tapeRefused("ask of " + bytes + " bytes", Edges.ARGUMENT, "\0".repeat(bytes), 5, x -> x.ask());
        }
        Edges.tapeRefused("ask of the year 100", Edges.ARGUMENT, "\u0064\0", 5, x -> x.ask());
        Kit.due("40 bytes", ask(new int[40]), 99);
    }

    @Says(promise = 41, sentence = "Uses the TAPE up: ASK")
    static void askUsesTheTapeUp() {
        OldFences x = Edges.lively("\u0005\u0005");
        x.ask();
        Kit.due("the fault stays", x.fault(), 5);
        Edges.alike("ask", x, Edges.lively(""));
    }
}
