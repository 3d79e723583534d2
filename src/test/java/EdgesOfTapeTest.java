/** Boundary sentences of promises 1 to 3 and 6: a new object, the tape, the first wrong byte. */
public final class EdgesOfTapeTest {
    public static void main(String[] args) {
        Edges.run(EdgesOfTapeTest.class);
    }

    // ---- 1: a new object ----

    @Says(promise = 1, sentence = "An object is used for at most 512 calls after it has been made")
    static void the512thCallIsAnsweredStill() {
        OldFences x = new OldFences();
        for (int i = 1; i <= 510; i++) {
            x.seed(i);
        }
        Kit.due("the 511th call, raise(59)", x.raise(59), 1);
        Kit.due("the 512th call, seed(0)", x.seed(0), 510);
    }

    @Says(promise = 1, sentence = "A county without FENCES.")
    static void aNewCountyHasNothing() {
        OldFences x = new OldFences();
        for (int border = 0; border < 60; border++) {
            for (int what = 0; what <= 6; what++) {
                Kit.due("new border(" + border + ", " + what + ")", x.border(border, what), 0);
            }
        }
        int[] due = {0, 0, 0, -1, 0, 0, 0, 0, 0, 0, 0, 0};
        for (int what = 0; what < due.length; what++) {
            Kit.due("new count(" + what + ")", x.count(what), due[what]);
        }
    }

    @Says(promise = 1, sentence = "On a BORDER there is a FENCE or none (none at first)")
    static void oneObjectKnowsNothingOfAnother() {
        OldFences other = Edges.lively("year 777");
        other.image();
        OldFences x = new OldFences();
        Kit.due("no fences", x.count(1), 0);
        Kit.due("no families", x.count(0), 0);
        Kit.due("an empty tape", x.end(1), false);
        Kit.due("no fault", x.fault(), -1);
        Kit.due("no image", x.back(), false);
        Kit.due("the first seed", x.seed(0), 1);
    }

    // ---- 2: feed ----

    @Says(promise = 2, sentence = "Twenty bytes come behind the TAPE")
    static void twentyBytesComeBehindWhatIsThere() {
        OldFences x = new OldFences();
        Kit.due("behind nothing", x.feed(0x79656172, 0x20373837, 0x37373737, 0, 0), 20);
        Kit.due("behind twenty", x.feed(0, 0, 0, 0, 0), 40);
        x.end(6);
        Kit.due("behind six", x.feed(0x35362020, 0x20202020, 0x20202020, 0x20202020, 0x20202020), 26);
        Kit.due("the text of both", x.county(), 1);
        Kit.due("year 7, then 56", x.count(4), 756);
        Kit.due("behind a tape used up", x.feed(0, 0, 0, 0, 0), 20);
    }

    @Says(promise = 2, sentence = "of each number the highest first")
    static void theHighestByteIsTheFirst() {
        OldFences x = new OldFences();
        x.feed(0x79656172, 0x20313233, 0x20202020, 0x20202020, 0x20202020);
        x.county();
        Kit.due("year 123", x.count(4), 123);
        dueFaultOfBytes("a number below 0 begins with its byte 255", 0, 0xFF202020, 0x20202020);
        dueFaultOfBytes("the least number's first byte is 128", 0, 0x80202020, 0x20202020);
        dueFaultOfBytes("the lowest byte is the fourth", 3, 0x202020FF, 0x20202020);
        dueFaultOfBytes("the second number comes behind the first", 4, 0x20202020, 0xFE202020);
    }

    private static void dueFaultOfBytes(String what, int fault, int first, int second) {
        OldFences x = new OldFences();
        x.feed(first, second, 0x20202020, 0x20202020, 0x20202020);
        Kit.dueArgument(what, () -> x.county());
        Kit.due(what, x.fault(), fault);
    }

    @Says(promise = 2, sentence = "NONE, and none come, if it would have more than 400")
    static void fourHundredBytesAreAllThatCome() {
        OldFences x = new OldFences();
        for (int i = 1; i <= 20; i++) {
            Kit.due("feed " + i, x.feed(0x20202020, 0x20202020, 0x20202020, 0x20202020, 0x20202020), 20 * i);
        }
        Kit.due("feed of a full tape", x.feed(0, 0, 0, 0, 0), -1);
        Kit.due("400 are there still", x.end(400), true);
        Kit.due("and no 401st", x.end(401), false);
        Kit.due("the blanks are what they were", x.county(), 1);
    }

    @Says(promise = 2, sentence = "if it would have more than 400")
    static void theLastTwentyMustAllHaveRoom() {
        OldFences x = full();
        x.end(381);
        Kit.due("feed behind 381", x.feed(0, 0, 0, 0, 0), -1);
        Kit.due("none of the twenty came", x.end(382), false);
        Kit.due("the 381 stay", x.end(381), true);
        x.end(380);
        Kit.due("feed behind 380", x.feed(0, 0, 0, 0, 0), 400);
    }

    private static OldFences full() {
        OldFences x = new OldFences();
        for (int i = 0; i < 20; i++) {
            x.feed(0x20202020, 0x20202020, 0x20202020, 0x20202020, 0x20202020);
        }
        return x;
    }

    @Says(promise = 2, sentence = "`int feed(int a, int b, int c, int d, int e)`")
    static void feedingChangesTheTapeAlone() {
        OldFences x = Edges.lively("");
        x.feed(0x20202020, -1, 0, 0, 0);
        x.end(0);
        Kit.due("the fault stays", x.fault(), 5);
        Edges.alike("feed and end", x, Edges.lively(""));
    }

    // ---- 3: end ----

    @Says(promise = 3, sentence = "The TAPE has its first n bytes alone: true")
    static void theFirstBytesStay() {
        OldFences x = new OldFences();
        Kit.due("none of none", x.end(0), true);
        x.feed(0x79656172, 0x20313233, 0, 0, 0);
        Kit.due("all of twenty", x.end(20), true);
        Kit.due("all but one", x.end(19), true);
        Kit.due("seven", x.end(7), true);
        Kit.due("seven again", x.end(7), true);
        x.county();
        Kit.due("year 12", x.count(4), 12);
    }

    @Says(promise = 3, sentence = "false, and nothing happens, if it has fewer")
    static void moreThanThereAreChangesNothing() {
        OldFences x = new OldFences();
        Kit.due("one of none", x.end(1), false);
        x.feed(0x79656172, 0x20313233, 0, 0, 0);
        Kit.due("21 of twenty", x.end(21), false);
        Kit.due("the most of twenty", x.end(Integer.MAX_VALUE), false);
        Kit.due("twenty are there still", x.end(20), true);
        x.end(8);
        Kit.due("what was cut off is gone", x.end(9), false);
        x.county();
        Kit.due("year 123", x.count(4), 123);
        Kit.due("one of a tape used up", x.end(1), false);
    }

    @Says(promise = 3, sentence = "or n is below 0")
    static void belowZeroChangesNothing() {
        OldFences x = new OldFences();
        Kit.due("-1 of none", x.end(-1), false);
        x.feed(0x79656172, 0x20313233, 0, 0, 0);
        Kit.due("-1", x.end(-1), false);
        Kit.due("the least number", x.end(Integer.MIN_VALUE), false);
        Kit.due("twenty are there still", x.end(20), true);
    }

    @Says(promise = 3, sentence = "`boolean end(int n)`")
    static void aRefusedEndChangesNothing() {
        Edges.changesNothing("end(-1)", 0, x -> x.end(-1) ? 1 : 0);
        Edges.changesNothing("end(9)", 0, x -> x.end(9) ? 1 : 0);
        Edges.changesNothing("end(8)", 1, x -> x.end(8) ? 1 : 0);
    }

    // ---- 6: fault ----

    @Says(promise = 6, sentence = "NONE without one, and ahead of any.")
    static void noFault() {
        OldFences x = new OldFences();
        Kit.due("ahead of any text", x.fault(), -1);
        Kit.county(x, "year 1");
        Kit.due("of a right county", x.fault(), -1);
        Kit.law(x, "grow 1");
        Kit.due("of a right law", x.fault(), -1);
        Kit.county(x, "");
        Kit.due("of an empty text", x.fault(), -1);
    }

    @Says(promise = 6, sentence = "The first wrong byte of the latest text that was read")
    static void theLatestTextCounts() {
        OldFences x = new OldFences();
        Kit.feed(x, "year x");
        Kit.dueArgument("a wrong county", () -> x.county());
        Kit.due("of the county", x.fault(), 5);
        Kit.due("asked again", x.fault(), 5);
        Kit.feed(x, "grow 1 1");
        Kit.dueArgument("a wrong law", () -> x.law());
        Kit.due("of the law", x.fault(), 7);
        Kit.feed(x, "x");
        Kit.dueArgument("a wrong county at byte 0", () -> x.county());
        Kit.due("byte 0", x.fault(), 0);
        Kit.law(x, " ");
        Kit.due("a right law behind a wrong county", x.fault(), -1);
    }

    @Says(promise = 6, sentence = "and fault(), where a text is read (also by one that is refused)")
    static void aRefusedTextIsReadAsWell() {
        OldFences x = new OldFences();
        for (int i = 0; i < 12; i++) {
            Kit.county(x, "");
        }
        Kit.feed(x, "year x");
        Kit.dueArgument("a wrong 13th text", () -> x.county());
        Kit.due("of a wrong 13th text", x.fault(), 5);
        Kit.feed(x, "year 1");
        Kit.dueThrow("a right 13th text", Edges.UNSUPPORTED, () -> x.county());
        Kit.due("of a right 13th text", x.fault(), -1);
    }

    @Says(promise = 6, sentence = "The first wrong byte of the latest text that was read; NONE without one")
    static void aFullTapeMayBeWrongBehindItsEnd() {
        Kit.dueWrongCounty("year" + " ".repeat(396), 400);
        Kit.dueWrongCounty(" ".repeat(399) + "x", 399);
        Kit.dueWrongLaw("grow" + " ".repeat(396), 400);
        Kit.dueWrongLaw("grow 1;" + " ".repeat(392) + "7", 399);
    }

    @Says(promise = 6, sentence = "(but for the TAPE, fault() and THE IMAGE itself)")
    static void whatIsNoTextLeavesTheFault() {
        OldFences x = Edges.lively("\u0005\u0005");
        x.seen(true);
        Kit.due("behind seen", x.fault(), 5);
        x.undo();
        Kit.due("behind undo", x.fault(), 5);
        x.back();
        Kit.due("behind back", x.fault(), 5);
        x.feed(0, 0, 0, 0, 0);
        Kit.due("behind feed", x.fault(), 5);
    }
}
