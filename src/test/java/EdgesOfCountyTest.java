/** Boundary sentences of promise 4: THE COUNTY, told in texts. */
public final class EdgesOfCountyTest {
    private static final String FOURTEEN = "year 1" + ";year 2".repeat(13);

    public static void main(String[] args) {
        Edges.run(EdgesOfCountyTest.class);
    }

    private static void due(OldFences x, int border, int... want) {
        for (int what = 0; what < want.length; what++) {
            Kit.due("border(" + border + ", " + what + ")", x.border(border, what), want[what]);
        }
    }

    // ---- how many texts, and what a refused one leaves ----

    @Says(promise = 4, sentence = "how many texts there are")
    static void textsAreCounted() {
        OldFences x = new OldFences();
        for (int i = 1; i <= 12; i++) {
            Kit.due("text " + i, Kit.county(x, i % 2 == 0 ? "" : "year " + i), i);
            Kit.due("count(2)", x.count(2), i);
        }
    }

    @Says(promise = 4, sentence = "UnsupportedOperationException: there are 12.")
    static void aThirteenthTextIsRefused() {
        OldFences x = twelve("year 777");
        OldFences untouched = twelve("");
        Kit.dueThrow("a 13th text", Edges.UNSUPPORTED, () -> x.county());
        Edges.alike("a 13th text", x, untouched);
        OldFences empty = twelve("");
        Kit.dueThrow("an empty 13th text", Edges.UNSUPPORTED, () -> empty.county());
    }

    private static OldFences twelve(String tape) {
        OldFences x = Edges.lively("");
        for (int i = x.count(2); i < 12; i++) {
            Kit.county(x, "");
        }
        x.raise(59);
        Kit.feed(x, tape);
        return x;
    }

    @Says(promise = 4, sentence = "IllegalArgumentException: it is wrong; UnsupportedOperationException: there are 12.")
    static void aWrongThirteenthTextIsWrongFirst() {
        OldFences x = twelve("year 1000");
        OldFences untouched = twelve("");
        Kit.dueArgument("a wrong 13th text", () -> x.county());
        Kit.due("its fault", x.fault(), 5);
        Edges.alike("a wrong 13th text", x, untouched);
    }

    @Says(promise = 4, sentence = "(at most 12, one behind another)")
    static void textsComeOneBehindAnother() {
        OldFences x = new OldFences();
        for (int i = 0; i < 12; i++) {
            Kit.county(x, "fence " + i * 3 + " " + (i * 3 + 1));
        }
        Kit.due("a fence of each", x.count(1), 12);
        Kit.due("the first one's", x.border(0, 0), 1);
        Kit.due("the twelfth one's", x.border(28, 0), 1);
    }

    @Says(promise = 4, sentence = "(at most 12, one behind another)")
    static void goingBackMakesRoomForTextsAgain() {
        OldFences x = Kit.told("year 3");
        x.image();
        for (int i = 2; i <= 12; i++) {
            Kit.county(x, "");
        }
        x.back();
        Kit.due("one is there", x.count(2), 1);
        Kit.due("a second one", Kit.county(x, "year 4"), 2);
    }

    @Says(promise = 4, sentence = "Uses the TAPE up: a text of THE COUNTY")
    static void theTapeIsUsedUp() {
        OldFences x = new OldFences();
        Kit.county(x, "year 1");
        Kit.due("by a right text", x.end(1), false);
        Kit.feed(x, "year x");
        Kit.dueArgument("a wrong text", () -> x.county());
        Kit.due("by a wrong text", x.end(1), false);
        OldFences y = twelve("year 1");
        Kit.dueThrow("a 13th text", Edges.UNSUPPORTED, () -> y.county());
        Kit.due("by a 13th text", y.end(1), false);
    }

    @Says(promise = 4, sentence = "Of a wrong text nothing stays.")
    static void nothingStaysOfAWrongText() {
        Edges.tapeRefused("wrong at its end", Edges.ARGUMENT,
                "fence 3 4 high 9;row 4 high 8;family at 1 climbs 1;quarrel 3;year 4;fence 0 1 age 1 high 1;x", 91,
                x -> x.county());
        Edges.tapeRefused("wrong within a fence", Edges.ARGUMENT, "fence 6 7 age 1 high 1 gate string 1", 35,
                x -> x.county());
        Edges.tapeRefused("wrong within a family", Edges.ARGUMENT, "family at 1 climbs 1 eyes", 25, x -> x.county());
    }

    // ---- lines ----

    @Says(promise = 4, sentence = "LINE { ; LINE }, at most 14")
    static void fourteenLinesAreAll() {
        OldFences x = new OldFences();
        Kit.due("14 lines", Kit.county(x, FOURTEEN), 1);
        Kit.due("the last of them", x.count(4), 2);
        Kit.dueWrongCounty(FOURTEEN + ";year 3", 98);
        Kit.dueWrongCounty(FOURTEEN + "  ;  fence 0 1", 102);
    }

    @Says(promise = 4, sentence = "A text that is empty, or blanks alone, has no LINE.")
    static void noLine() {
        OldFences x = new OldFences();
        Kit.due("an empty text", Kit.county(x, ""), 1);
        Kit.due("one blank", Kit.county(x, " "), 2);
        Kit.due("400 blanks", Kit.county(x, " ".repeat(400)), 3);
        Kit.due("nothing came", x.count(1) + x.count(0) + x.count(4) + x.count(5), 0);
        Kit.dueWrongCounty(";", 0);
        Kit.dueWrongCounty(" ; ", 1);
        Kit.dueWrongCounty("year 1;;year 2", 7);
        Kit.dueWrongCounty(";year 2", 0);
    }

    @Says(promise = 4, sentence = "Words are as long as a to z go on")
    static void wordsGoOn() {
        OldFences x = new OldFences();
        Kit.due("signs and numbers end a word", Kit.county(x, "fence0 1age7high9gate;year5"), 1);
        due(x, 0, 1, 7, 9, 1, 0);
        Kit.dueWrongCounty("fence 0 1 gatestring", 10);
        Kit.dueWrongCounty("fences 0 1", 0);
        Kit.dueWrongCounty("fencez 0 1", 0);
        Kit.dueWrongCounty("fencea 0 1", 0);
        Kit.dueWrongCounty("fenc 0 1", 0);
        Kit.dueWrongCounty("fence`0 1", 5);
        Kit.dueWrongCounty("fence{0 1", 5);
        Kit.dueWrongCounty("yearA", 4);
        Kit.dueWrongCounty("yearZ 1", 4);
        Kit.dueWrongCounty("Year 1", 0);
    }

    @Says(promise = 4, sentence = "between all there may be blanks (32), also ahead and behind")
    static void blanksStandAnywhereBetween() {
        OldFences x = new OldFences();
        Kit.due("many", Kit.county(x, "   fence   0   1   high   7   ;   year   8   "), 1);
        due(x, 0, 1, 0, 7);
        Kit.due("none but where numbers meet", Kit.county(x, "fence1 2high6;year9"), 2);
        due(x, 1, 1, 0, 6);
        Kit.dueWrongCounty("year\t1", 4);
        Kit.dueWrongCounty("year\n1", 4);
        Kit.dueWrongCounty("year\u001f1", 4);
        Kit.dueWrongCounty("year!1", 4);
        Kit.dueWrongCounty("year\0001", 4);
        Kit.dueWrongCounty("year\u00a01", 4);
        Kit.dueWrongCounty("ye ar 1", 0);
        Kit.dueWrongCounty("year 1 2", 7);
    }

    // ---- numbers ----

    @Says(promise = 4, sentence = "Numbers are of 1 to 3 digits.")
    static void numbersAreOfThreeDigitsAtMost() {
        OldFences x = Kit.told("year 7;quarrel 007;fence 000 001 age 012 high 01");
        Kit.due("one digit", x.count(4), 7);
        Kit.due("three digits", x.count(5), 7);
        due(x, 0, 1, 12, 1);
        Kit.dueWrongCounty("year 0007", 5);
        Kit.dueWrongCounty("quarrel 0000", 8);
        Kit.dueWrongCounty("fence 0000 1", 6);
        Kit.dueWrongCounty("fence 0 0001", 8);
        Kit.dueWrongCounty("fence 0 1 age 0001", 14);
        Kit.dueWrongCounty("fence 0 1 high 0001", 15);
        Kit.dueWrongCounty("row 0001 high 1", 4);
        Kit.dueWrongCounty("row 0 high 0001", 11);
        Kit.dueWrongCounty("family at 0001 climbs 1", 10);
        Kit.dueWrongCounty("family at 0 climbs 0001", 19);
        Kit.dueWrongCounty("family at 0 climbs 1 eyes 0001", 26);
        Kit.dueWrongCounty("year 99999999999999999999", 5);
        Kit.dueWrongCounty("year 4294967296", 5);
        Kit.dueWrongCounty("year 0000000000", 5);
    }

    @Says(promise = 4, sentence = "CELLS 0 to 35: six rows of six")
    static void theFirstOfAFenceIsACell() {
        OldFences x = Kit.told("fence 0 1;fence 35 34");
        due(x, 0, 1);
        due(x, 29, 1);
        Kit.dueWrongCounty("fence 36 35", 6);
        Kit.dueWrongCounty("fence 999 0", 6);
        Kit.dueWrongCounty("fence -1 0", 6);
    }

    @Says(promise = 4, sentence = "two CELLS with a BORDER between them, else it is wrong at the second one")
    static void theSecondOfAFenceIsBesideTheFirst() {
        OldFences x = Kit.told("fence 4 5;fence 5 11;fence 30 31;fence 24 30;fence 35 29");
        Kit.due("each of these has a border", x.count(1), 5);
        Kit.dueWrongCounty("fence 0 0", 8);
        Kit.dueWrongCounty("fence 5 6", 8);
        Kit.dueWrongCounty("fence 6 5", 8);
        Kit.dueWrongCounty("fence 29 30", 9);
        Kit.dueWrongCounty("fence 0 7", 8);
        Kit.dueWrongCounty("fence 0 2", 8);
        Kit.dueWrongCounty("fence 0 12", 8);
        Kit.dueWrongCounty("fence 0 35", 8);
        Kit.dueWrongCounty("fence 35 36", 9);
        Kit.dueWrongCounty("fence 30 36", 9);
        Kit.dueWrongCounty("fence 35 41", 9);
    }

    @Says(promise = 4, sentence = "one that is there is as told anew")
    static void aFenceToldAgainIsAsToldAnew() {
        OldFences x = Kit.told("fence 0 1 age 5 high 6 gate string");
        Kit.county(x, "fence 1 0");
        due(x, 0, 1, 0, 0, 0, 0);
        Kit.county(x, "fence 0 1 gate;fence 0 1 age 3;fence 0 1 high 4 string");
        due(x, 0, 1, 0, 4, 0, 1);
        Kit.due("it is one", x.count(1), 1);
    }

    @Says(promise = 4, sentence = "age 0 to 999, high 0 to 999, 0 both, if they are not told")
    static void agesAndHeightsOfAFence() {
        OldFences x = Kit.told("fence 0 1;fence 1 2 age 0 high 0;fence 2 3 age 999;fence 3 4 high 999;"
                + "fence 4 5 age 999 high 999 gate string");
        due(x, 0, 1, 0, 0, 0, 0);
        due(x, 1, 1, 0, 0, 0, 0);
        due(x, 2, 1, 999, 0, 0, 0);
        due(x, 3, 1, 0, 999, 0, 0);
        due(x, 4, 1, 999, 999, 1, 1);
        Kit.dueWrongCounty("fence 0 1 age 1000", 14);
        Kit.dueWrongCounty("fence 0 1 high 1000", 15);
        Kit.dueWrongCounty("fence 0 1 age -1", 14);
        Kit.dueWrongCounty("fence 0 1 high -1", 15);
    }

    @Says(promise = 4, sentence = "fence N N [ age N ] [ high N ] [ gate ] [ string ]")
    static void eachPartOfAFenceOnceAndInItsOrder() {
        Kit.dueWrongCounty("fence 0 1 high 1 age 1", 17);
        Kit.dueWrongCounty("fence 0 1 age 1 age 1", 16);
        Kit.dueWrongCounty("fence 0 1 high 1 high 1", 17);
        Kit.dueWrongCounty("fence 0 1 gate age 1", 15);
        Kit.dueWrongCounty("fence 0 1 gate high 1", 15);
        Kit.dueWrongCounty("fence 0 1 gate gate", 15);
        Kit.dueWrongCounty("fence 0 1 string gate", 17);
        Kit.dueWrongCounty("fence 0 1 string string", 17);
    }

    @Says(promise = 4, sentence = "row: 0 to 4")
    static void rowsFromTheFirstToTheLast() {
        OldFences x = Kit.told("row 0 high 1");
        Kit.due("six fences", x.count(1), 6);
        due(x, 30, 1, 0, 1);
        due(x, 35, 1, 0, 1);
        due(x, 36, 0);
        due(x, 29, 0);
        Kit.county(x, "row 4 high 2");
        Kit.due("six more", x.count(1), 12);
        due(x, 53, 0);
        due(x, 54, 1, 0, 2);
        due(x, 59, 1, 0, 2);
        Kit.dueWrongCounty("row 5 high 1", 4);
        Kit.dueWrongCounty("row 999 high 1", 4);
        Kit.dueWrongCounty("row -1 high 1", 4);
    }

    @Says(promise = 4, sentence = "FENCES of AGE 0, that HIGH (0 to 999), neither GATE nor STRING")
    static void aRowIsAsToldAnew() {
        OldFences x = Kit.told("fence 6 12 age 5 high 6 gate string;fence 12 18 age 5 high 6 gate string;row 1 high 0");
        due(x, 36, 1, 0, 0, 0, 0);
        due(x, 42, 1, 5, 6, 1, 1);
        Kit.county(x, "row 1 high 999");
        due(x, 36, 1, 0, 999, 0, 0);
        due(x, 41, 1, 0, 999, 0, 0);
        Kit.due("seven, not more", x.count(1), 7);
        Kit.dueWrongCounty("row 1 high 1000", 11);
        Kit.dueWrongCounty("row 1", 5);
        Kit.dueWrongCounty("row 1 gate", 6);
        Kit.dueWrongCounty("row 1 high 3 string", 13);
    }

    @Says(promise = 4, sentence = "at: a CELL")
    static void aHomeIsACell() {
        OldFences x = Kit.told("family at 0 climbs 1;family at 35 climbs 1");
        Kit.due("the first cell", x.family(0, 0), 0);
        Kit.due("the last cell", x.family(1, 0), 35);
        Kit.dueWrongCounty("family at 36 climbs 1", 10);
        Kit.dueWrongCounty("family at 999 climbs 1", 10);
        Kit.dueWrongCounty("family at -1 climbs 1", 10);
    }

    @Says(promise = 4, sentence = "CLIMBS 0 to 999, EYES 0 to 999 (60 at first), SORE 0 to 99 (0 at first)")
    static void climbsAndEyesOfAFamily() {
        OldFences x = Kit.told("family at 1 climbs 0;family at 1 climbs 999;family at 1 climbs 5 eyes 0;"
                + "family at 1 climbs 6 eyes 999");
        int[][] due = {{1, 0, 60, 0}, {1, 999, 60, 0}, {1, 5, 0, 0}, {1, 6, 999, 0}};
        for (int family = 0; family < due.length; family++) {
            for (int what = 0; what < 4; what++) {
                Kit.due("family(" + family + ", " + what + ")", x.family(family, what), due[family][what]);
            }
        }
        Kit.dueWrongCounty("family at 1 climbs 1000", 19);
        Kit.dueWrongCounty("family at 1 climbs -1", 19);
        Kit.dueWrongCounty("family at 1 climbs 1 eyes 1000", 26);
        Kit.dueWrongCounty("family at 1 eyes 1", 12);
        Kit.dueWrongCounty("family climbs 1", 7);
    }

    @Says(promise = 4, sentence = "FAMILIES (at most 6, numbered from 0 on)")
    static void sixFamiliesAreAll() {
        OldFences x = Kit.told("family at 0 climbs 0" + ";family at 1 climbs 1".repeat(5));
        Kit.due("six", x.count(0), 6);
        Kit.due("the sixth one's home", x.family(5, 0), 1);
        Kit.feed(x, "year 3;  family at 1 climbs 1");
        Kit.dueArgument("a 7th of another text", () -> x.county());
        Kit.due("its first word", x.fault(), 9);
        Kit.due("six as before", x.count(0), 6);
        Kit.due("the year as before", x.count(4), 0);
        Kit.due("a text without one", Kit.county(x, "year 4"), 2);
        Kit.dueWrongCounty("family at 0 climbs 0" + ";family at 1 climbs 1".repeat(6), 126);
        Kit.dueWrongCounty("family at 0 climbs 0" + ";family at 1 climbs 1".repeat(5) + ";family", 126);
    }

    @Says(promise = 4, sentence = "QUARREL 0 to 100 (0 at first)")
    static void quarrelsFromNoneToAll() {
        OldFences x = new OldFences();
        Kit.due("at first", x.count(5), 0);
        Kit.county(x, "quarrel 100");
        Kit.due("the most", x.count(5), 100);
        Kit.county(x, "quarrel 5;quarrel 0");
        Kit.due("the least", x.count(5), 0);
        Kit.dueWrongCounty("quarrel 101", 8);
        Kit.dueWrongCounty("quarrel 999", 8);
        Kit.dueWrongCounty("quarrel -1", 8);
    }

    @Says(promise = 4, sentence = "year: 0 to 999")
    static void yearsOfAText() {
        OldFences x = new OldFences();
        Kit.county(x, "year 999");
        Kit.due("the most", x.count(4), 999);
        Kit.county(x, "year 0");
        Kit.due("the least", x.count(4), 0);
        Kit.dueWrongCounty("year 1000", 5);
        Kit.dueWrongCounty("year 9999", 5);
        Kit.dueWrongCounty("year -1", 5);
    }

    @Says(promise = 4, sentence = "year: 0 to 999")
    static void aTextTurnsTheYearBack() {
        OldFences x = Kit.told("year 999");
        for (int i = 0; i < 90; i++) {
            x.years(100);
        }
        Kit.due("the last year", x.count(4), 9999);
        Kit.county(x, "year 1");
        Kit.due("the year told", x.count(4), 1);
    }

    // ---- the first wrong byte ----

    @Says(promise = 4, sentence = "a number of more digits, or out of its bounds, or that tells none that can be")
    static void aWrongNumberIsWrongAtItsBegin() {
        Kit.dueWrongCounty("year   1234 x", 7);
        Kit.dueWrongCounty("quarrel   101;x", 10);
        Kit.dueWrongCounty("fence  0   3 x", 11);
        Kit.dueWrongCounty("fence  40   41", 7);
    }

    @Says(promise = 4, sentence = "a word that is none")
    static void aWrongWordIsWrongAtItsBegin() {
        Kit.dueWrongCounty("  yearly 3", 2);
        Kit.dueWrongCounty("year three", 5);
        Kit.dueWrongCounty("fence 0 1 hig 3", 10);
        Kit.dueWrongCounty("fence 0 1; grow 3", 11);
        Kit.dueWrongCounty("family in 3", 7);
        Kit.dueWrongCounty("gate", 0);
    }

    @Says(promise = 4, sentence = "the begin of the first thing that cannot stand there")
    static void noOtherThingStandsThere() {
        String lines = "fence row family quarrel year";
        Edges.dueNext(Kit::dueWrongCounty, "", lines);
        Edges.dueNext(Kit::dueWrongCounty, "year 3;", lines);
        Edges.dueNext(Kit::dueWrongCounty, "year", "7");
        Edges.dueNext(Kit::dueWrongCounty, "year 3", ";");
        Edges.dueNext(Kit::dueWrongCounty, "quarrel", "7");
        Edges.dueNext(Kit::dueWrongCounty, "quarrel 3", ";");
        Edges.dueNext(Kit::dueWrongCounty, "fence", "7");
        Edges.dueNext(Kit::dueWrongCounty, "fence 1", "7");
        Edges.dueNext(Kit::dueWrongCounty, "fence 1 7", "age high gate string ;");
        Edges.dueNext(Kit::dueWrongCounty, "fence 1 7 age", "7");
        Edges.dueNext(Kit::dueWrongCounty, "fence 1 7 age 3", "high gate string ;");
        Edges.dueNext(Kit::dueWrongCounty, "fence 1 7 high", "7");
        Edges.dueNext(Kit::dueWrongCounty, "fence 1 7 high 3", "gate string ;");
        Edges.dueNext(Kit::dueWrongCounty, "fence 1 7 gate", "string ;");
        Edges.dueNext(Kit::dueWrongCounty, "fence 1 7 string", ";");
        Edges.dueNext(Kit::dueWrongCounty, "row", "");
        Edges.dueNext(Kit::dueWrongCounty, "row 3", "high");
        Edges.dueNext(Kit::dueWrongCounty, "row 3 high", "7");
        Edges.dueNext(Kit::dueWrongCounty, "row 3 high 3", ";");
        Edges.dueNext(Kit::dueWrongCounty, "family", "at");
        Edges.dueNext(Kit::dueWrongCounty, "family at", "7");
        Edges.dueNext(Kit::dueWrongCounty, "family at 3", "climbs");
        Edges.dueNext(Kit::dueWrongCounty, "family at 3 climbs", "7");
        Edges.dueNext(Kit::dueWrongCounty, "family at 3 climbs 3", "eyes ;");
        Edges.dueNext(Kit::dueWrongCounty, "family at 3 climbs 3 eyes", "7");
        Edges.dueNext(Kit::dueWrongCounty, "family at 3 climbs 3 eyes 3", ";");
    }

    @Says(promise = 4, sentence = "The first wrong byte: the begin of the first thing that cannot stand there")
    static void asManyThingsAsBytes() {
        Kit.dueWrongCounty(";".repeat(400), 0);
        Kit.dueWrongCounty("year 1" + ";".repeat(394), 7);
        Kit.dueWrongCounty("year 1;" + "x".repeat(393), 7);
        Kit.dueWrongCounty("year 1;" + "7".repeat(393), 7);
        Kit.dueWrongCounty("\u00ff".repeat(400), 0);
    }

    @Says(promise = 4, sentence = "of a LINE, a family too many, the first word")
    static void whatIsTooManyIsWrongAtItsFirstWord() {
        Kit.dueWrongCounty(FOURTEEN + ";  year x", 100);
        Kit.dueWrongCounty(FOURTEEN + ";x", 98);
        String six = "family at 0 climbs 0" + ";family at 1 climbs 1".repeat(5);
        Kit.dueWrongCounty(six + "; family at x", 127);
        Kit.dueWrongCounty(six + ";year 1;family", 133);
    }

    @Says(promise = 4, sentence = "or the text's length, if more must come")
    static void moreMustCome() {
        String[] cut = {"fence", "fence 0", "fence 0 1 age", "fence 0 1 high", "fence 0 1 age 3 high", "fence 0 1;",
            "row", "row 0", "row 0 high", "family", "family at", "family at 0", "family at 0 climbs",
            "family at 0 climbs 1 eyes", "quarrel", "year", "year 1;"};
        for (String text : cut) {
            Kit.dueWrongCounty(text, text.length());
            Kit.dueWrongCounty(" " + text + "  ", text.length() + 3);
        }
        Kit.dueWrongCounty(FOURTEEN + ";", 98);
        Kit.dueWrongCounty(FOURTEEN + ";  ", 100);
    }
}
