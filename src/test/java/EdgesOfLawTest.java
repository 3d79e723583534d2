/** Boundary sentences of promises 5, 7 and 8: THE LAW, what a fence grows and sores by, borders between cells. */
public final class EdgesOfLawTest {
    private static final String TWELVE = "grow 1" + ";grow 1".repeat(11);

    public static void main(String[] args) {
        Edges.run(EdgesOfLawTest.class);
    }

    /** What the fence on a border grows by under this law. */
    private static void dueGrows(OldFences x, String law, int border, int grows) {
        Kit.law(x, law);
        Kit.due("grows by \"" + law + "\", border " + border, x.border(border, 5), grows);
    }

    private static void holds(OldFences x, String condition, int border, boolean does) {
        dueGrows(x, "grow 1 if " + condition, border, does ? 1 : 0);
    }

    // ---- 5: law ----

    @Says(promise = 5, sentence = "THE LAW: how many LINES.")
    static void linesAreCounted() {
        OldFences x = new OldFences();
        Kit.due("without one", x.count(3), -1);
        Kit.due("none", Kit.law(x, ""), 0);
        Kit.due("count(3) of none", x.count(3), 0);
        Kit.due("one", Kit.law(x, "sore 3"), 1);
        Kit.due("count(3) of one", x.count(3), 1);
        Kit.due("twelve", Kit.law(x, TWELVE), 12);
        Kit.due("count(3) of twelve", x.count(3), 12);
    }

    @Says(promise = 5, sentence = "LINE { ; LINE }, at most 12")
    static void twelveLinesAreAll() {
        OldFences x = Kit.told("fence 0 1");
        dueGrows(x, TWELVE, 0, 12);
        Kit.dueWrongLaw(TWELVE + ";grow 1", 84);
        Kit.dueWrongLaw(TWELVE + ";  sore x", 86);
        Kit.dueWrongLaw(TWELVE + ";", 84);
        Kit.dueWrongLaw(TWELVE + "; 7", 85);
    }

    @Says(promise = 5, sentence = "a text, in place of the one before")
    static void aLawTakesThePlaceOfTheOneBefore() {
        OldFences x = Kit.told("fence 0 1");
        for (int n = 1; n <= 20; n++) {
            dueGrows(x, "grow " + n, 0, n);
        }
        Kit.due("texts of the county are counted alone", x.count(2), 1);
        Kit.due("one line", x.count(3), 1);
        dueGrows(x, "", 0, 0);
    }

    @Says(promise = 5, sentence = "IllegalArgumentException: the text is wrong.")
    static void aWrongLawLeavesTheOneBefore() {
        Edges.tapeRefused("wrong at its end", Edges.ARGUMENT, "grow 60;sore 60;sink x", 21, x -> x.law());
        Edges.tapeRefused("wrong at its begin", Edges.ARGUMENT, "x", 0, x -> x.law());
        Edges.tapeRefused("a 13th line", Edges.ARGUMENT, TWELVE + ";sore 1", 84, x -> x.law());
        Edges.tapeRefused("a text of the county", Edges.ARGUMENT, "year 5", 0, x -> x.law());
    }

    @Says(promise = 5, sentence = "Uses the TAPE up: THE LAW")
    static void theTapeIsUsedUp() {
        OldFences x = new OldFences();
        Kit.law(x, "grow 1");
        Kit.due("by a right one", x.end(1), false);
        Kit.feed(x, "grow x");
        Kit.dueArgument("a wrong law", () -> x.law());
        Kit.due("by a wrong one", x.end(1), false);
        Kit.due("then there is no line", x.law(), 0);
    }

    @Says(promise = 5, sentence = "A text that is empty, or blanks alone, has no LINE.")
    static void noLine() {
        OldFences x = Kit.told("fence 0 1");
        Kit.due("an empty text", Kit.law(x, ""), 0);
        Kit.due("one blank", Kit.law(x, " "), 0);
        Kit.due("400 blanks", Kit.law(x, " ".repeat(400)), 0);
        Kit.due("grows by none", x.border(0, 5), 0);
        Kit.dueWrongLaw(";", 0);
        Kit.dueWrongLaw("grow 1;;grow 1", 7);
        Kit.dueWrongLaw("grow 1;", 7);
    }

    @Says(promise = 5, sentence = "All numbers are of 1 to 3 digits (N 0 to 60).")
    static void whatALineGrowsBy() {
        OldFences x = Kit.told("fence 0 1");
        dueGrows(x, "grow 0", 0, 0);
        dueGrows(x, "grow 60", 0, 60);
        dueGrows(x, "sink 60", 0, -60);
        dueGrows(x, "grow 060", 0, 60);
        Kit.law(x, "sore 60");
        Kit.due("sores by 60", x.border(0, 6), 60);
        Kit.dueWrongLaw("grow 61", 5);
        Kit.dueWrongLaw("sink 61", 5);
        Kit.dueWrongLaw("sore 61", 5);
        Kit.dueWrongLaw("grow 999", 5);
        Kit.dueWrongLaw("grow 0060", 5);
        Kit.dueWrongLaw("grow -1", 5);
    }

    @Says(promise = 5, sentence = "All numbers are of 1 to 3 digits")
    static void numbersOfASum() {
        OldFences x = Kit.told("fence 0 1 high 999");
        holds(x, "high > 998", 0, true);
        holds(x, "high > 999", 0, false);
        holds(x, "high + 1 > 999", 0, true);
        holds(x, "999+999+999 > 999+999+998", 0, true);
        holds(x, "0 < 000", 0, false);
        x.raise(59);
        holds(x, "0 > 0", 59, false);
        holds(x, "0 < 1", 59, true);
        holds(x, "1 > 0", 59, true);
        holds(x, "007 > 6", 0, true);
        Kit.dueWrongLaw("grow 1 if high > 1000", 17);
        Kit.dueWrongLaw("grow 1 if high > 0999", 17);
        Kit.dueWrongLaw("grow 1 if 4294967296 < 1", 10);
    }

    @Says(promise = 5, sentence = "SUM < SUM | SUM > SUM")
    static void asMuchIsNeitherLessNorMore() {
        OldFences x = Kit.told("fence 0 1 age 7 high 7");
        holds(x, "high < 7", 0, false);
        holds(x, "high > 7", 0, false);
        holds(x, "high < 8", 0, true);
        holds(x, "high > 6", 0, true);
        holds(x, "age < high", 0, false);
        holds(x, "not age < high", 0, true);
    }

    @Says(promise = 5, sentence = "PART: NUMBER | border | age | high | x | y | year")
    static void theFirstAndTheLastBorder() {
        OldFences x = Kit.told("fence 0 1;fence 34 35;fence 0 6;fence 29 35");
        holds(x, "border < 1", 0, true);
        holds(x, "border > 58 and border < 60", 59, true);
        holds(x, "border > 28 and border < 30", 29, true);
        holds(x, "border > 29 and border < 31", 30, true);
        holds(x, "across", 29, false);
        holds(x, "across", 30, true);
        holds(x, "across", 0, false);
        holds(x, "across", 59, true);
    }

    @Says(promise = 5, sentence = "ATOM: not ATOM | ( C ) | gate | string | across")
    static void whatIsAndWhatIsNot() {
        OldFences x = Kit.told("fence 0 1 gate;fence 1 2 string;fence 0 6;fence 1 7 gate string");
        // a string never grows, so that it is seen by whom it makes sore
        int[] borders = {0, 1, 30, 31};
        int[][] due = {{1, 0, 0, 1}, {0, 1, 0, 1}, {0, 0, 1, 1}};
        String[] words = {"gate", "string", "across"};
        for (int word = 0; word < words.length; word++) {
            for (int i = 0; i < borders.length; i++) {
                Kit.law(x, "sore 1 if " + words[word]);
                Kit.due(words[word] + " of " + borders[i], x.border(borders[i], 6), due[word][i]);
                Kit.law(x, "sore 1 if not " + words[word]);
                Kit.due("not " + words[word] + " of " + borders[i], x.border(borders[i], 6), 1 - due[word][i]);
            }
        }
    }

    @Says(promise = 5, sentence = "x, y: of the CELL of the less number of its two")
    static void theCellOfTheLessNumber() {
        OldFences x = Kit.told("fence 1 0;fence 35 34;fence 6 0;fence 35 29;fence 5 11");
        String places = "grow 1 if x > 3;grow 2 if x > 4;grow 4 if y > 3;grow 8 if y > 4;grow 16 if x > 0;grow 32 if y > 0";
        dueGrows(x, places, 0, 0);
        dueGrows(x, places, 29, 1 + 4 + 8 + 16 + 32);
        dueGrows(x, places, 30, 0);
        dueGrows(x, places, 59, 1 + 2 + 4 + 16 + 32);
        dueGrows(x, places, 35, 1 + 2 + 16);
    }

    @Says(promise = 5, sentence = "year: YEAR modulo 100")
    static void theYearGoesRound() {
        OldFences x = Kit.told("fence 0 1;year 99");
        holds(x, "year > 98", 0, true);
        x.years(1);
        Kit.due("in the year 100", x.border(0, 5), 0);
        holds(x, "year < 1", 0, true);
        Kit.county(x, "year 999");
        holds(x, "year > 98 and year < 100", 0, true);
        Kit.county(x, "year 201");
        holds(x, "year > 0 and year < 2", 0, true);
        holds(x, "year > 99", 0, false);
    }

    @Says(promise = 5, sentence = "( and not within one another at most 6 deep")
    static void sixDeep() {
        OldFences x = Kit.told("fence 0 1 gate");
        holds(x, "((((((gate))))))", 0, true);
        holds(x, "not not not not not not gate", 0, true);
        holds(x, "not (not (not (gate)))", 0, false);
        holds(x, "(((((gate))))) and (((((not gate))))) or ((((((gate))))))", 0, true);
        holds(x, "((((((gate and gate)) or string))))", 0, true);
        holds(x, "not not not not not not high < 1 and not not not not not gate", 0, false);
        Kit.dueWrongLaw("grow 1 if (((((((gate)))))))", 16);
        Kit.dueWrongLaw("grow 1 if not not not not not not not gate", 34);
        Kit.dueWrongLaw("grow 1 if not(not(not(not gate)))", 22);
        Kit.dueWrongLaw("grow 1 if gate or ((((((not gate))))))", 24);
        Kit.dueWrongLaw("grow 1 if not not not (((gate and (gate))))", 34);
    }

    @Says(promise = 5, sentence = "the ( or not that is a 7th one deep")
    static void theSeventhIsWrongAtItsBegin() {
        Kit.dueWrongLaw("grow 1 if ((((((   (gate", 19);
        Kit.dueWrongLaw("grow 1 if ((((((not", 16);
        Kit.dueWrongLaw("grow 1 if ((((((", 16);
        Kit.dueWrongLaw("grow 1 if not((((( not x", 19);
        Kit.dueWrongLaw("grow 1 if ((((((gate)))))) or (((((((", 36);
    }

    @Says(promise = 5, sentence = "The first wrong byte: the begin of the first thing that cannot stand there")
    static void whatCannotStandThere() {
        Kit.dueWrongLaw("grow", 4);
        Kit.dueWrongLaw("  grows 1", 2);
        Kit.dueWrongLaw("grow 1 1", 7);
        Kit.dueWrongLaw("grow 1 or gate", 7);
        Kit.dueWrongLaw("grow 1 if gate not gate", 15);
        Kit.dueWrongLaw("grow 1 if gate (gate)", 15);
        Kit.dueWrongLaw("grow 1 if and", 10);
        Kit.dueWrongLaw("grow 1 if )", 10);
        Kit.dueWrongLaw("grow 1 if (gate;", 15);
        Kit.dueWrongLaw("grow 1 if gate)", 14);
        Kit.dueWrongLaw("grow 1 if high < (3)", 17);
        Kit.dueWrongLaw("grow 1 if high < not 3", 17);
        Kit.dueWrongLaw("grow 1 if high + + 3 < 3", 17);
        Kit.dueWrongLaw("grow 1 if high - 3 < 3", 15);
        Kit.dueWrongLaw("grow 1 if high <> 3", 16);
        Kit.dueWrongLaw("grow 1 if high < 3 > 1", 19);
        Kit.dueWrongLaw("grow 1 if climbs < 3", 10);
        Kit.dueWrongLaw("grow 1 if xy < 3", 10);
        Kit.dueWrongLaw("grow 1 if gate = 3", 15);
        Kit.dueWrongLaw("grow 1 if gate < 3", 15);
        Kit.dueWrongLaw("grow 1 ; if gate", 9);
    }

    @Says(promise = 5, sentence = "the begin of the first thing that cannot stand there")
    static void noOtherThingStandsThere() {
        Edges.dueNext(Kit::dueWrongLaw, "", "grow sink sore");
        Edges.dueNext(Kit::dueWrongLaw, "grow", "7");
        Edges.dueNext(Kit::dueWrongLaw, "sink 3", "if ;");
        Edges.dueNext(Kit::dueWrongLaw, "sore 3;", "grow sink sore");
        String atoms = "not ( gate string across 7 border age high x y year";
        Edges.dueNext(Kit::dueWrongLaw, "grow 3 if", atoms);
        Edges.dueNext(Kit::dueWrongLaw, "grow 3 if (", atoms);
        Edges.dueNext(Kit::dueWrongLaw, "grow 3 if not", atoms);
        Edges.dueNext(Kit::dueWrongLaw, "grow 3 if gate or", atoms);
        Edges.dueNext(Kit::dueWrongLaw, "grow 3 if gate and", atoms);
        Edges.dueNext(Kit::dueWrongLaw, "grow 3 if gate", "and or ;");
        Edges.dueNext(Kit::dueWrongLaw, "grow 3 if (gate", "and or )");
        Edges.dueNext(Kit::dueWrongLaw, "grow 3 if (gate)", "and or ;");
        Edges.dueNext(Kit::dueWrongLaw, "grow 3 if high", "+ < >");
        Edges.dueNext(Kit::dueWrongLaw, "grow 3 if high <", "7 border age high x y year");
        Edges.dueNext(Kit::dueWrongLaw, "grow 3 if high +", "7 border age high x y year");
        Edges.dueNext(Kit::dueWrongLaw, "grow 3 if high > 3", "+ and or ;");
        Edges.dueNext(Kit::dueWrongLaw, "grow 3 if (high > 3", "+ and or )");
    }

    @Says(promise = 5, sentence = "The first wrong byte: the begin of the first thing that cannot stand there")
    static void asManyThingsAsBytes() {
        Kit.dueWrongLaw(";".repeat(400), 0);
        Kit.dueWrongLaw("grow 1" + ";".repeat(394), 7);
        Kit.dueWrongLaw("sink1if" + "(".repeat(393), 13);
        Kit.dueWrongLaw("sink1if0" + "+1".repeat(196), 400);
        Kit.dueWrongLaw("sink1if0" + "+1".repeat(195) + "<", 399);
        OldFences x = new OldFences();
        Kit.due("400 bytes", Kit.law(x, "sink1if0" + "+1".repeat(195) + "<1"), 1);
    }

    @Says(promise = 5, sentence = "or the text's length, if more must come")
    static void moreMustCome() {
        String[] cut = {"grow", "sink", "sore", "grow 1;", "grow 1 if", "grow 1 if not", "grow 1 if (", "grow 1 if (gate",
            "grow 1 if gate and", "grow 1 if gate or", "grow 1 if high", "grow 1 if high +", "grow 1 if high <",
            "grow 1 if high > 3 +", "grow 1 if ((gate)"};
        for (String text : cut) {
            Kit.dueWrongLaw(text, text.length());
            Kit.dueWrongLaw(" " + text + "  ", text.length() + 3);
        }
    }

    @Says(promise = 5, sentence = "C: ALL { or ALL }; ALL: ATOM { and ATOM }")
    static void asManyAsATextHolds() {
        OldFences x = Kit.told("fence 0 1 gate");
        holds(x, "string or ".repeat(38) + "gate", 0, true);
        holds(x, "gate and ".repeat(42) + "gate", 0, true);
        holds(x, "gate and ".repeat(41) + "string", 0, false);
        holds(x, "0" + "+1".repeat(180) + ">179", 0, true);
        holds(x, "0" + "+1".repeat(180) + ">180", 0, false);
    }

    // ---- 7: border ----

    @Says(promise = 7, sentence = "below 0, too; without a text 1")
    static void growsBelowZeroAndWithoutAText() {
        OldFences x = Kit.told("fence 0 1 high 5");
        Kit.due("without a text", x.border(0, 5), 1);
        dueGrows(x, " ", 0, 0);
        dueGrows(x, "sink 1", 0, -1);
        dueGrows(x, "sink 60" + ";sink 60".repeat(11), 0, -720);
        dueGrows(x, "grow 60" + ";grow 60".repeat(11), 0, 720);
        dueGrows(x, "grow 7;sink 7", 0, 0);
        dueGrows(x, "grow 7 if gate;sink 9 if string", 0, 0);
    }

    @Says(promise = 7, sentence = "of a STRING always 0")
    static void aStringGrowsByNone() {
        OldFences x = Kit.told("fence 0 1 high 5 string");
        Kit.due("without a text", x.border(0, 5), 0);
        dueGrows(x, "grow 60", 0, 0);
        dueGrows(x, "sink 60", 0, 0);
        dueGrows(x, "grow 60 if string", 0, 0);
        x.string(0, false);
        dueGrows(x, "grow 60", 0, 60);
    }

    @Says(promise = 7, sentence = "SORES by: the sum of N of all sore LINES that hold.")
    static void soresByNoneToAll() {
        OldFences x = Kit.told("fence 0 1 high 5 string");
        Kit.due("without a text", x.border(0, 6), 0);
        Kit.law(x, "grow 5");
        Kit.due("without such a line", x.border(0, 6), 0);
        Kit.law(x, "sore 5 if gate");
        Kit.due("if none holds", x.border(0, 6), 0);
        Kit.law(x, "sore 60" + ";sore 60".repeat(11));
        Kit.due("of a string, too", x.border(0, 6), 720);
    }

    @Says(promise = 7, sentence = "and (0 without one) 1 AGE, 2 HIGH")
    static void nothingOfABorderWithoutAFence() {
        OldFences x = Kit.told("fence 0 1 age 3 high 5 gate string");
        Kit.law(x, "grow 3;sore 4");
        x.pull(0);
        for (int what = 0; what <= 6; what++) {
            Kit.due("a pulled one, " + what, x.border(0, what), 0);
            Kit.due("none ever, " + what, x.border(59, what), 0);
        }
    }

    @Says(promise = 7, sentence = "NoSuchElementException: another what.")
    static void anotherWhat() {
        for (int what : new int[] {-1, 7, Integer.MIN_VALUE, Integer.MAX_VALUE}) {
            Edges.refused("border(0, " + what + ")", Edges.NO_ELEMENT, x -> x.border(0, what));
            Edges.refused("border(59, " + what + ") without a fence", Edges.NO_ELEMENT, x -> x.border(59, what));
        }
    }

    @Says(promise = 7, sentence = "IndexOutOfBoundsException: there is no such CELL, BORDER, family, CORNER.")
    static void noSuchBorder() {
        for (int border : Edges.NO_BORDERS) {
            Edges.refused("border(" + border + ", 0)", Edges.BOUNDS, x -> x.border(border, 0));
            Edges.refused("border(" + border + ", 7)", Edges.BOUNDS, x -> x.border(border, 7));
        }
    }

    // ---- 8: between ----

    @Says(promise = 8, sentence = "The BORDER between two CELLS; NONE.")
    static void cellsWithoutABorder() {
        OldFences x = new OldFences();
        int[][] apart = {{0, 0}, {35, 35}, {5, 6}, {6, 5}, {29, 30}, {0, 2}, {0, 7}, {1, 6}, {0, 12}, {0, 35}, {35, 0},
            {0, 5}, {0, 30}, {34, 29}};
        for (int[] two : apart) {
            Kit.due("between(" + two[0] + ", " + two[1] + ")", x.between(two[0], two[1]), -1);
        }
    }

    @Says(promise = 8, sentence = "the BORDER 5 times y and x (x 0 to 4, y 0 to 5)")
    static void theFirstAndLastBesideEachOther() {
        OldFences x = new OldFences();
        int[][] due = {{0, 1, 0}, {4, 5, 4}, {6, 7, 5}, {30, 31, 25}, {34, 35, 29}};
        dueBetween(x, due);
    }

    @Says(promise = 8, sentence = "the BORDER 30 and 6 times y and x (x 0 to 5, y 0 to 4)")
    static void theFirstAndLastAcross() {
        OldFences x = new OldFences();
        int[][] due = {{0, 6, 30}, {5, 11, 35}, {6, 12, 36}, {24, 30, 54}, {29, 35, 59}};
        dueBetween(x, due);
    }

    private static void dueBetween(OldFences x, int[][] due) {
        for (int[] row : due) {
            Kit.due("between(" + row[0] + ", " + row[1] + ")", x.between(row[0], row[1]), row[2]);
            Kit.due("between(" + row[1] + ", " + row[0] + ")", x.between(row[1], row[0]), row[2]);
        }
    }

    @Says(promise = 8, sentence = "IndexOutOfBoundsException: there is no such CELL, BORDER, family, CORNER.")
    static void noSuchCell() {
        for (int cell : Edges.NO_CELLS) {
            Edges.refused("between(" + cell + ", 0)", Edges.BOUNDS, x -> x.between(cell, 0));
            Edges.refused("between(35, " + cell + ")", Edges.BOUNDS, x -> x.between(35, cell));
            Edges.refused("between(" + cell + ", " + cell + ")", Edges.BOUNDS, x -> x.between(cell, cell));
        }
    }
}
