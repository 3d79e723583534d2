/** Promises 1 to 8 and 59: a new object, the tape, the texts of the county and of the law, what they tell. */
public final class TextsTest {
    public static void main(String[] args) {
        newObject();
        tape();
        countyTexts();
        wrongCounties();
        countyLimits();
        laws();
        wrongLaws();
        faults();
        bordersOfCells();
        Kit.close("TextsTest");
    }

    private static void newObject() {
        OldFences x = new OldFences();
        int[] due = {0, 0, 0, -1, 0, 0, 0, 0, 0, 0, 0, 0};
        for (int what = 0; what < due.length; what++) {
            Kit.due("new count(" + what + ")", x.count(what), due[what]);
        }
        Kit.due("count(12)", x.count(12), -1);
        Kit.due("count(-1)", x.count(-1), -1);
        Kit.due("new fault", x.fault(), -1);
        Kit.due("NONE", OldFences.NONE, -1);
        for (int b = 0; b < 60; b++) {
            Kit.due("new border " + b, x.border(b, 0), 0);
        }
        Kit.due("new seed", x.seed(5), 1);
        Kit.due("new undo", x.undo(), false);
        Kit.due("new back", x.back(), false);
        Kit.due("new log", x.log(0, 0), -2);
        Kit.dueBounds("no family", () -> x.family(0, 0));
    }

    private static void tape() {
        OldFences x = new OldFences();
        for (int i = 1; i <= 20; i++) {
            Kit.due("feed " + i, x.feed(0, 0, 0, 0, 0), 20 * i);
        }
        Kit.due("feed of a full tape", x.feed(1, 2, 3, 4, 5), -1);
        Kit.due("end(401)", x.end(401), false);
        Kit.due("end(-1)", x.end(-1), false);
        Kit.due("end(400)", x.end(400), true);
        Kit.due("end(381)", x.end(381), true);
        Kit.due("feed of 381", x.feed(0, 0, 0, 0, 0), -1);
        Kit.due("end(380)", x.end(380), true);
        Kit.due("feed of 380", x.feed(0, 0, 0, 0, 0), 400);
        Kit.due("end(0)", x.end(0), true);
        Kit.due("end(1) of none", x.end(1), false);
        // "year 258" and what is cut off; of each number the highest byte first
        Kit.due("feed of a text", x.feed(0x79656172, 0x20323538, 0x3b3b3b3b, -1, 0), 20);
        x.end(8);
        Kit.due("county", x.county(), 1);
        Kit.due("YEAR", x.count(4), 258);
        Kit.due("the tape is used up", x.end(1), false);
        Kit.feed(x, "yeah 1");
        Kit.dueArgument("wrong county", () -> x.county());
        Kit.due("the tape of a wrong text is used up", x.end(1), false);
        Kit.feed(x, 0xE9);
        Kit.dueArgument("wrong law", () -> x.law());
        Kit.due("the tape of a wrong law is used up", x.end(1), false);
    }

    private static void countyTexts() {
        OldFences x = new OldFences();
        Kit.due("no text", x.count(2), 0);
        Kit.due("first text", Kit.county(x, "fence 0 1 age 7 high 12 gate string; fence 6 0; row 4 high 999"), 1);
        due(x, 0, 1, 7, 12, 1, 1);
        due(x, 30, 1, 0, 0, 0, 0);
        due(x, 54, 1, 0, 999, 0, 0);
        due(x, 59, 1, 0, 999, 0, 0);
        due(x, 53, 0, 0, 0, 0, 0);
        Kit.due("second text", Kit.county(x, "fence 1 0 high 3;row 0 high 5;fence 2 8 age 999 high 999 string"), 2);
        due(x, 0, 1, 0, 3, 0, 0);
        due(x, 30, 1, 0, 5, 0, 0);
        due(x, 32, 1, 999, 999, 0, 1);
        Kit.due("fences", x.count(1), 13);
        Kit.due("a text of words without blanks", Kit.county(x, "  fence4 5age002high3;quarrel100;year007  "), 3);
        due(x, 4, 1, 2, 3, 0, 0);
        Kit.due("quarrel", x.count(5), 100);
        Kit.due("year", x.count(4), 7);
        Kit.due("blanks", Kit.county(x, "   "), 4);
        Kit.due("nothing", Kit.county(x, ""), 5);
        Kit.county(x, "family at 35 climbs 999 eyes 0;family at 0 climbs 0;quarrel 0");
        Kit.due("families", x.count(0), 2);
        int[] first = {35, 999, 0, 0};
        int[] second = {0, 0, 60, 0};
        for (int what = 0; what < 4; what++) {
            Kit.due("family 0 what " + what, x.family(0, what), first[what]);
            Kit.due("family 1 what " + what, x.family(1, what), second[what]);
        }
        Kit.due("texts", x.count(2), 6);
        Kit.due("a fence of a text is not in the log", x.count(10), 0);
        Kit.due("a text is no act", x.count(11), 0);
        Kit.due("gate of 1 and 7 sides", Kit.county(x, "fence 14 15 gate;fence 14 20 high 4 gate"), 7);
        due(x, 12, 1, 0, 0, 1, 0);
        due(x, 44, 1, 0, 4, 1, 0);
        Kit.county(x, "fence 35 34 age 999 high 999;fence 29 35 age 1;year 999");
        due(x, 29, 1, 999, 999, 0, 0);
        due(x, 59, 1, 1, 0, 0, 0);
        Kit.due("the highest year", x.count(4), 999);
        Kit.due("gates", x.count(6), 2);
        Kit.due("strings", x.count(7), 1);
    }

    private static void due(OldFences x, int border, int... want) {
        for (int what = 0; what < want.length; what++) {
            Kit.due("border(" + border + ", " + what + ")", x.border(border, what), want[what]);
        }
    }

    private static void wrongCounties() {
        Kit.dueWrongCounty("fence 36 1", 6);
        Kit.dueWrongCounty("fence 0001 1", 6);
        Kit.dueWrongCounty("fence 0 0", 8);
        Kit.dueWrongCounty("fence 5 6", 8);
        Kit.dueWrongCounty("fence 0 36", 8);
        Kit.dueWrongCounty("fence 0  7", 9);
        Kit.dueWrongCounty("fence 30 36", 9);
        Kit.dueWrongCounty("fence 35 36", 9);
        Kit.dueWrongCounty("fence 35 1000", 9);
        Kit.dueWrongCounty("fence 0", 7);
        Kit.dueWrongCounty("fence 0 ", 8);
        Kit.dueWrongCounty("fence", 5);
        Kit.dueWrongCounty("fence;", 5);
        Kit.dueWrongCounty("fence 0 1 gate age 3", 15);
        Kit.dueWrongCounty("fence 0 1 high 3 age 3", 17);
        Kit.dueWrongCounty("fence 0 1 string gate", 17);
        Kit.dueWrongCounty("fence 0 1 gate gate", 15);
        Kit.dueWrongCounty("fence 0 1 age", 13);
        Kit.dueWrongCounty("fence 0 1 age x", 14);
        Kit.dueWrongCounty("fence 0 1 age 1000", 14);
        Kit.dueWrongCounty("fence 0 1 3", 10);
        Kit.dueWrongCounty("fence 0 1 gates", 10);
        Kit.dueWrongCounty("fence0 1gatestring", 8);
        Kit.dueWrongCounty("fenced 0 1", 0);
        Kit.dueWrongCounty(" Fence 0 1", 1);
        Kit.dueWrongCounty("fencez 0 1", 0);
        Kit.dueWrongCounty("gence 0 1", 0);
        Kit.dueWrongCounty("fenca 0 1", 0);
        Kit.dueWrongCounty("fence`0 1", 5);
        Kit.dueWrongCounty("fence{0 1", 5);
        Kit.dueWrongCounty("fence 0/1", 7);
        Kit.dueWrongCounty("fence 0:1", 7);
        Kit.dueWrongCounty("row 4 high 10;row 5 high 1", 18);
        Kit.dueWrongCounty("row 0", 5);
        Kit.dueWrongCounty("row 0 age 3", 6);
        Kit.dueWrongCounty("row 0 high", 10);
        Kit.dueWrongCounty("row 0 high 9 gate", 13);
        Kit.dueWrongCounty("family 3", 7);
        Kit.dueWrongCounty("family at", 9);
        Kit.dueWrongCounty("family at 3", 11);
        Kit.dueWrongCounty("family at 36 climbs 1", 10);
        Kit.dueWrongCounty("family at 37 climbs 1", 10);
        Kit.dueWrongCounty("family at 35 climbs 1000", 20);
        Kit.dueWrongCounty("family at 35 climbs 1 eyes 1000", 27);
        Kit.dueWrongCounty("row 0 high 1000", 11);
        Kit.dueWrongCounty("fence 0 1 high 1000", 15);
        Kit.dueWrongCounty("year 1000", 5);
        Kit.dueWrongCounty("quarrel 101", 8);
        Kit.dueWrongCounty("family at 3 eyes 3", 12);
        Kit.dueWrongCounty("family at 3 climbs", 18);
        Kit.dueWrongCounty("family at 3 climbs 4 eyes", 25);
        Kit.dueWrongCounty("family at 3 climbs 4 high 3", 21);
        Kit.dueWrongCounty("year 3 4", 7);
        Kit.dueWrongCounty("year\t3", 4);
        Kit.dueWrongCounty("year -3", 5);
        Kit.dueWrongCounty("fence 0 1;;year 3", 10);
        Kit.dueWrongCounty(";", 0);
        Kit.dueWrongCounty("fence 0 1; ", 11);
        Kit.dueWrongCounty("fence 0 1;grow 3", 10);
        Kit.dueWrongCounty("quarrel 0101", 8);
        Kit.dueWrongCounty("\0", 0);
    }

    private static void countyLimits() {
        OldFences x = new OldFences();
        String fourteen = "year 1" + ";year 2".repeat(13);
        Kit.due("14 lines", Kit.county(x, fourteen), 1);
        Kit.dueWrongCounty(fourteen + " ; fence 0 1", 100);
        Kit.dueWrongCounty(fourteen + " ; 7", 100);
        Kit.dueWrongCounty(fourteen + "; ", 99);
        Kit.county(x, "family at 1 climbs 1" + ";family at 1 climbs 1".repeat(4));
        Kit.due("5 families", x.count(0), 5);
        Kit.feed(x, "year 9;family at 1 climbs 1; family climbs");
        Kit.dueArgument("a 7th family", () -> x.county());
        Kit.due("of a 7th family the first word", x.fault(), 29);
        Kit.due("nothing stays of families", x.count(0), 5);
        Kit.due("nothing stays of the year", x.count(4), 2);
        for (int i = 3; i <= 12; i++) {
            Kit.due("text " + i, Kit.county(x, i == 3 ? "family at 3 climbs 2" : ""), i);
        }
        Kit.feed(x, "year 77");
        Kit.dueThrow("a 13th text", "UnsupportedOperationException", () -> x.county());
        Kit.due("fault of a 13th text", x.fault(), -1);
        Kit.due("a 13th text stays off", x.count(4), 2);
        Kit.due("a 13th text uses the tape up", x.end(1), false);
        Kit.feed(x, "year 1000");
        Kit.dueArgument("a wrong 13th text", () -> x.county());
        Kit.due("fault of a wrong 13th text", x.fault(), 5);
        Kit.due("12 texts", x.count(2), 12);
    }

    private static void laws() {
        OldFences x = Kit.told("fence 14 15 age 5 high 30 gate;fence 14 20 high 12 string;fence 0 6 age 9 high 9;year 903");
        Kit.due("without a law", x.border(12, 5), 1);
        Kit.due("a string without a law", x.border(44, 5), 0);
        Kit.due("sores without a law", x.border(12, 6), 0);
        Kit.due("an empty law", Kit.law(x, "  "), 0);
        Kit.due("lines of an empty law", x.count(3), 0);
        Kit.due("grows by an empty law", x.border(12, 5), 0);
        holds(x, "gate", 1, 0);
        holds(x, "string", 0, 0);
        holds(x, "across", 0, 1);
        holds(x, "not across", 1, 0);
        holds(x, "x<3", 1, 1);
        holds(x, "x > 1", 1, 0);
        holds(x, "y > 1", 1, 0);
        holds(x, "y < 1", 0, 1);
        holds(x, "border < 13 and border > 11", 1, 0);
        holds(x, "border > 29 and border < 31", 0, 1);
        holds(x, "age < 6", 1, 0);
        holds(x, "age > 5", 0, 1);
        holds(x, "high > 29", 1, 0);
        holds(x, "high > 30", 0, 0);
        holds(x, "high < age", 0, 0);
        holds(x, "high + age > 34", 1, 0);
        holds(x, "year > 2 and year < 4", 1, 1);
        holds(x, "high+age+x+y+border+0+001 > 51", 1, 0);
        holds(x, "high+age+x+y+border+0+001 < 52", 0, 1);
        holds(x, "2 < high", 1, 1);
        holds(x, "999 < high", 0, 0);
        Kit.county(x, "fence 10 16 high 5");
        Kit.law(x, "grow 1 if x < 5;grow 2 if x > 3;grow 4 if y < 2;grow 8 if y > 0;grow 16 if border < 41;grow 32 if border > 39");
        Kit.due("x 4, y 1, border 40", x.border(40, 5), 63);
        // and binds before or
        holds(x, "gate or across and string", 1, 0);
        holds(x, "(gate or across) and string", 0, 0);
        holds(x, "across and string or gate", 1, 0);
        holds(x, "string and gate or across and gate or across", 0, 1);
        holds(x, "across or string or gate", 1, 1);
        holds(x, "not gate and not across", 0, 0);
        holds(x, "not (gate and across)", 1, 1);
        holds(x, "not not gate", 1, 0);
        holds(x, "((((((gate))))))", 1, 0);
        holds(x, "not(not(not(across)))", 1, 0);
        holds(x, "(gate) and ((across) or not (string))", 1, 0);
        Kit.due("growing and sinking", Kit.law(x, "grow 60;grow 3 if gate;sink 10;sink 60 if across;sore 7;sore 50 if across"), 6);
        Kit.due("grows, 12", x.border(12, 5), 53);
        Kit.due("grows, 30", x.border(30, 5), -10);
        Kit.due("a string grows by none", x.border(44, 5), 0);
        Kit.due("sores, 12", x.border(12, 6), 7);
        Kit.due("sores, 30", x.border(30, 6), 57);
        Kit.due("a string sores", x.border(44, 6), 57);
        Kit.due("none grows", x.border(13, 5), 0);
        Kit.due("none sores", x.border(13, 6), 0);
        Kit.feed(x, "grow 1;hmm");
        Kit.dueArgument("a wrong law", () -> x.law());
        Kit.due("the law before stays", x.count(3), 6);
        Kit.due("the law before grows", x.border(12, 5), 53);
        String twelve = "grow 1" + ";grow 1".repeat(11);
        Kit.due("12 lines", Kit.law(x, twelve), 12);
        Kit.due("a law in place of the one before", x.border(12, 5), 12);
        Kit.due("12 lines counted", x.count(3), 12);
        Kit.due("no lines behind 12", Kit.law(x, ""), 0);
        Kit.due("grows by none of them", x.border(12, 5), 0);
    }

    /** Whether a condition holds for BORDER 12 (a gate, not across) and 30 (across), one is held against the other. */
    private static void holds(OldFences x, String condition, int at12, int at30) {
        Kit.law(x, "grow 1 if " + condition);
        Kit.due("12: " + condition, x.border(12, 5), at12);
        Kit.due("30: " + condition, x.border(30, 5), at30);
    }

    private static void wrongLaws() {
        Kit.dueWrongLaw("grow", 4);
        Kit.dueWrongLaw("grow ", 5);
        Kit.dueWrongLaw("grow x", 5);
        Kit.dueWrongLaw("sink 61", 5);
        Kit.dueWrongLaw("sore 0001", 5);
        Kit.dueWrongLaw("grow 1 gate", 7);
        Kit.dueWrongLaw("grow 1 if", 9);
        Kit.dueWrongLaw("grow 1 if ;", 10);
        Kit.dueWrongLaw("grow 1 if gate and", 18);
        Kit.dueWrongLaw("grow 1 if gate or", 17);
        Kit.dueWrongLaw("grow 1 if gate or or gate", 18);
        Kit.dueWrongLaw("grow 1 if gate and and gate", 19);
        Kit.dueWrongLaw("trow 1", 0);
        Kit.dueWrongLaw("grow 1 if (gate or", 18);
        Kit.dueWrongLaw("grow 1 if string < 3", 17);
        Kit.dueWrongLaw("grow 1 if not high", 18);
        Kit.dueWrongLaw("grow 1 if not high )", 19);
        Kit.dueWrongLaw("grow 1 if gate gate", 15);
        Kit.dueWrongLaw("grow 1 if gate < 3", 15);
        Kit.dueWrongLaw("grow 1 if high < gate", 17);
        Kit.dueWrongLaw("grow 1 if high", 14);
        Kit.dueWrongLaw("grow 1 if high and gate", 15);
        Kit.dueWrongLaw("grow 1 if high = 3", 15);
        Kit.dueWrongLaw("grow 1 if high < 1000", 17);
        Kit.dueWrongLaw("grow 1 if 1000 < high", 10);
        Kit.dueWrongLaw("grow 1 if high + < 3", 17);
        Kit.dueWrongLaw("grow 1 if high < 3 < 4", 19);
        Kit.dueWrongLaw("grow 1 if high < 3 +", 20);
        Kit.dueWrongLaw("grow 1 if (gate", 15);
        Kit.dueWrongLaw("grow 1 if (gate;grow 1", 15);
        Kit.dueWrongLaw("grow 1 if gate)", 14);
        Kit.dueWrongLaw("grow 1 if (high) < 3", 15);
        Kit.dueWrongLaw("grow 1 if ()", 11);
        Kit.dueWrongLaw("grow 1 if not", 13);
        Kit.dueWrongLaw("grow 1 if not not not not not not not gate", 34);
        Kit.dueWrongLaw("grow 1 if (((((((gate)))))))", 16);
        Kit.dueWrongLaw("grow 1 if (((not not not (gate))))", 25);
        Kit.dueWrongLaw("grow 1 if fence", 10);
        Kit.dueWrongLaw("fence 0 1", 0);
        Kit.dueWrongLaw("grow 1;", 7);
        Kit.dueWrongLaw("grow 1 if gate andacross", 15);
        String twelve = "grow 1" + ";grow 1".repeat(11);
        Kit.dueWrongLaw(twelve + ";grow 1", 84);
        Kit.dueWrongLaw(twelve + "; ", 85);
        Kit.dueWrongLaw(twelve + "; +", 85);
        Kit.dueWrongLaw(";".repeat(400), 0);
        Kit.dueWrongCounty("year 1;" + ";".repeat(393), 7);
        Kit.dueWrongCounty(" ".repeat(399) + "(", 399);
        Kit.dueWrongCounty("year" + " ".repeat(396), 400);
        OldFences x = new OldFences();
        Kit.due("400 bytes of things", Kit.law(x, "sink1if1" + "+1".repeat(195) + "<1"), 1);
        Kit.due("398 bytes of nots", Kit.law(x, "grow1if " + "not(gate)or ".repeat(32) + "(gate)"), 1);
        Kit.due("6 deep, and again", Kit.law(x, "grow 1 if not not not not not not gate or not(not(not gate))"), 1);
    }

    private static void faults() {
        OldFences x = new OldFences();
        Kit.feed(x, "year x");
        Kit.dueArgument("a wrong text", () -> x.county());
        Kit.due("its fault", x.fault(), 5);
        Kit.feed(x, 200, 200);
        Kit.dueArgument("what was seen is no text", () -> x.seen(true));
        Kit.due("the fault is of the text still", x.fault(), 5);
        Kit.law(x, "grow 1");
        Kit.due("no fault", x.fault(), -1);
    }

    private static void bordersOfCells() {
        OldFences x = new OldFences();
        for (int b = 0; b < 60; b++) {
            Kit.due("between of " + b, x.between(Model.CELL_A[b], Model.CELL_B[b]), b);
            Kit.due("between, turned, of " + b, x.between(Model.CELL_B[b], Model.CELL_A[b]), b);
        }
        Kit.due("between of one", x.between(3, 3), -1);
        Kit.due("between of rows' ends", x.between(5, 6), -1);
        Kit.due("between of the far ones", x.between(0, 35), -1);
        Kit.dueBounds("between(36, 0)", () -> x.between(36, 0));
        Kit.dueBounds("between(0, -1)", () -> x.between(0, -1));
        Kit.dueBounds("border(60, 9)", () -> x.border(60, 9));
        Kit.dueBounds("border(-1, 0)", () -> x.border(-1, 0));
        Kit.dueNoElement("border(0, 7)", () -> x.border(0, 7));
        Kit.dueNoElement("border(0, -1)", () -> x.border(0, -1));
    }
}
