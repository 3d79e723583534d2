import java.util.function.ToLongFunction;

/** Boundary sentences of promises 11 to 18: what is done by hand to fences and families. */
public final class EdgesOfActsTest {
    public static void main(String[] args) {
        Edges.run(EdgesOfActsTest.class);
    }

    private static void due(OldFences x, int border, int... want) {
        for (int what = 0; what < want.length; what++) {
            Kit.due("border(" + border + ", " + what + ")", x.border(border, what), want[what]);
        }
    }

    /** The lively county has fences on 0, 1 and 5, none on 59. */
    private static final int WITHOUT = 59;

    private static int bit(boolean is) {
        return is ? 1 : 0;
    }

    // ---- 11: raise ----

    @Says(promise = 11, sentence = "A FENCE is put up: how many there are then.")
    static void fromTheFirstToTheSixtieth() {
        OldFences x = new OldFences();
        for (int border = 0; border < 60; border++) {
            Kit.due("raise(" + border + ")", x.raise(border), border + 1);
        }
        Kit.due("sixty", x.count(1), 60);
        Kit.dueState("a 61st", () -> x.raise(59));
        x.pull(0);
        Kit.due("the sixtieth again", x.raise(0), 60);
    }

    @Says(promise = 11, sentence = "a FENCE is put up (AGE 0, HIGH 0, neither GATE nor STRING)")
    static void aRaisedFenceIsNew() {
        OldFences x = Kit.told("fence 34 35 age 999 high 999 gate string");
        x.pull(29);
        x.raise(29);
        due(x, 29, 1, 0, 0, 0, 0);
    }

    @Says(promise = 11, sentence = "IllegalStateException: there is one.")
    static void oneIsThere() {
        for (int border : new int[] {0, 1, 5}) {
            Edges.refused("raise(" + border + ")", Edges.STATE, x -> x.raise(border));
        }
        OldFences byHand = new OldFences();
        byHand.raise(7);
        Kit.dueState("of one put up by hand", () -> byHand.raise(7));
        OldFences byQuarrel = Kit.told("family at 14 climbs 0;quarrel 100");
        byQuarrel.years(100);
        Kit.dueState("of one put up by a quarrel", () -> byQuarrel.raise(38));
    }

    @Says(promise = 11, sentence = "BORDERS 0 to 59")
    static void raiseOfNoBorder() {
        OldFences x = new OldFences();
        Kit.due("the first", x.raise(0), 1);
        Kit.due("the last", x.raise(59), 2);
        boundsOfBorders("raise", (y, border) -> y.raise(border));
    }

    /** A call of a border. */
    private interface OfBorder {
        long on(OldFences x, int border);
    }

    private static void boundsOfBorders(String name, OfBorder call) {
        for (int border : Edges.NO_BORDERS) {
            Edges.refused(name + "(" + border + ")", Edges.BOUNDS, x -> call.on(x, border));
        }
    }

    // ---- 12: pull ----

    @Says(promise = 12, sentence = "Pulled: how HIGH it was.")
    static void theLowestAndTheHighestPulled() {
        OldFences x = Kit.told("fence 0 1 high 999;fence 34 35;fence 1 2 high 1");
        Kit.due("999", x.pull(0), 999);
        Kit.due("0", x.pull(29), 0);
        Kit.due("1", x.pull(1), 1);
        Kit.due("none is left", x.count(1), 0);
        Kit.due("none is high", x.count(8), 0);
    }

    @Says(promise = 12, sentence = "Pulled: how HIGH it was.")
    static void allSixtyPulled() {
        OldFences x = Edges.grown(7);
        for (int border = 0; border < 60; border++) {
            Kit.due("pull(" + border + ")", x.pull(border), 7);
            Kit.due("left", x.count(1), 59 - border);
        }
    }

    @Says(promise = 12, sentence = "IllegalStateException: there is none.")
    static void noneIsThere() {
        Edges.refused("pull of none", Edges.STATE, x -> x.pull(WITHOUT));
        Edges.refused("pull of one pulled", Edges.STATE, x -> x.pull(50));
        OldFences x = Kit.told("fence 0 1 high 5");
        x.pull(0);
        Kit.dueState("pulled twice", () -> x.pull(0));
        OldFences empty = new OldFences();
        Kit.dueState("pull in an empty county", () -> empty.pull(0));
    }

    @Says(promise = 12, sentence = "BORDERS 0 to 59")
    static void pullOfNoBorder() {
        boundsOfBorders("pull", (x, border) -> x.pull(border));
    }

    // ---- 13: gate ----

    @Says(promise = 13, sentence = "A GATE, or none: whether that changed.")
    static void gateOrNone() {
        OldFences x = Kit.told("fence 0 1 age 3 high 9 string;fence 34 35 gate");
        Kit.due("none that has none", x.gate(0, false), false);
        Kit.due("a gate", x.gate(0, true), true);
        Kit.due("a gate that has one", x.gate(0, true), false);
        due(x, 0, 1, 3, 9, 1, 1);
        Kit.due("two gates", x.count(6), 2);
        Kit.due("none", x.gate(29, false), true);
        Kit.due("one gate", x.count(6), 1);
        x.pull(0);
        Kit.due("a pulled gate counts no more", x.count(6), 0);
        x.raise(0);
        Kit.due("nor does it come back", x.count(6), 0);
    }

    @Says(promise = 13, sentence = "IllegalStateException: there is no FENCE.")
    static void gateWithoutAFence() {
        Edges.refused("gate, true", Edges.STATE, x -> bit(x.gate(WITHOUT, true)));
        Edges.refused("gate, false", Edges.STATE, x -> bit(x.gate(WITHOUT, false)));
    }

    @Says(promise = 13, sentence = "BORDERS 0 to 59")
    static void gateOfNoBorder() {
        boundsOfBorders("gate", (x, border) -> bit(x.gate(border, true)));
        boundsOfBorders("gate", (x, border) -> bit(x.gate(border, false)));
    }

    // ---- 14: string ----

    @Says(promise = 14, sentence = "A STRING, or not: whether that changed.")
    static void stringOrNot() {
        OldFences x = Kit.told("fence 0 1 age 3 high 9 gate;fence 34 35 string");
        Kit.due("not, as before", x.string(0, false), false);
        Kit.due("a string", x.string(0, true), true);
        Kit.due("a string as before", x.string(0, true), false);
        due(x, 0, 1, 3, 9, 1, 1);
        Kit.due("two strings", x.count(7), 2);
        Kit.due("not", x.string(29, false), true);
        Kit.due("one string", x.count(7), 1);
        x.pull(0);
        Kit.due("a pulled string counts no more", x.count(7), 0);
        x.raise(0);
        Kit.due("nor does it come back", x.count(7), 0);
    }

    @Says(promise = 14, sentence = "it is a STRING from then on, or not")
    static void aStringGrowsFromThenOnOrNot() {
        OldFences x = Kit.told("fence 0 1 high 9");
        x.years(1);
        x.string(0, true);
        x.years(5);
        Kit.due("as high as then", x.border(0, 2), 10);
        x.string(0, false);
        x.years(1);
        Kit.due("grows again", x.border(0, 2), 11);
    }

    @Says(promise = 14, sentence = "IllegalStateException: there is no FENCE.")
    static void stringWithoutAFence() {
        Edges.refused("string, true", Edges.STATE, x -> bit(x.string(WITHOUT, true)));
        Edges.refused("string, false", Edges.STATE, x -> bit(x.string(WITHOUT, false)));
    }

    @Says(promise = 14, sentence = "BORDERS 0 to 59")
    static void stringOfNoBorder() {
        boundsOfBorders("string", (x, border) -> bit(x.string(border, true)));
        boundsOfBorders("string", (x, border) -> bit(x.string(border, false)));
    }

    // ---- 15: again ----

    @Says(promise = 15, sentence = "Begun again: how HIGH it was.")
    static void begunAgainFromNoneToAll() {
        OldFences x = Kit.told("fence 0 1 age 9 high 999 gate string;fence 34 35 age 9");
        Kit.due("as high", x.again(0, 999), 999);
        due(x, 0, 1, 0, 999, 1, 1);
        Kit.due("one less", x.again(0, 998), 999);
        Kit.due("to 0", x.again(0, 0), 998);
        Kit.due("from 0 to 0", x.again(0, 0), 0);
        Kit.due("one of high 0", x.again(29, 0), 0);
        due(x, 29, 1, 0, 0, 0, 0);
    }

    @Says(promise = 15, sentence = "high is none (0 to 999)")
    static void heightsThatAreNone() {
        for (int high : Edges.NO_HEIGHTS) {
            Edges.refused("again(0, " + high + ")", Edges.ARGUMENT, x -> x.again(0, high));
            Edges.refused("again of none, " + high, Edges.ARGUMENT, x -> x.again(WITHOUT, high));
        }
    }

    @Says(promise = 15, sentence = "there is no FENCE, or it was less HIGH")
    static void noFenceOrALessHighOne() {
        Edges.refused("again of none", Edges.STATE, x -> x.again(WITHOUT, 0));
        Edges.refused("again of one pulled", Edges.STATE, x -> x.again(50, 0));
        Edges.refused("one inch more", Edges.STATE, x -> x.again(0, 5));
        Edges.refused("999", Edges.STATE, x -> x.again(0, 999));
        OldFences x = Kit.told("fence 0 1");
        Kit.dueState("1 of 0", () -> x.again(0, 1));
    }

    @Says(promise = 15, sentence = "Of several exceptions the one told first is thrown")
    static void againOfNoBorder() {
        boundsOfBorders("again", (x, border) -> x.again(border, 0));
        boundsOfBorders("again too high", (x, border) -> x.again(border, 1000));
    }

    // ---- 16: forgive ----

    @Says(promise = 16, sentence = "A family forgives: SORE that it was.")
    static void forgivesNoneToAll() {
        OldFences x = Kit.told("family at 0 climbs 0;family at 1 climbs 0;fence 0 1");
        Kit.due("sore 0", x.forgive(0), 0);
        Kit.law(x, "sore 60");
        x.years(2);
        Kit.due("sore 99", x.forgive(1), 99);
        Kit.due("sore 0 then", x.forgive(1), 0);
        Kit.due("the other one is sore still", x.family(0, 3), 99);
    }

    @Says(promise = 16, sentence = "FAMILIES (at most 6, numbered from 0 on)")
    static void forgiveOfNoFamily() {
        boundsOfFamilies("forgive", (x, family) -> x.forgive(family));
    }

    private static void boundsOfFamilies(String name, OfBorder call) {
        for (int family : Edges.NO_FAMILIES) {
            Edges.refused(name + "(" + family + ")", Edges.BOUNDS, x -> call.on(x, family));
        }
        OldFences empty = new OldFences();
        Kit.dueBounds(name + " without families", () -> call.on(empty, 0));
        OldFences six = Kit.told("family at 0 climbs 0" + ";family at 1 climbs 1".repeat(5));
        Kit.dueThrow(name + " of the sixth", "nothing", () -> call.on(six, 5));
        Kit.dueBounds(name + " of a seventh", () -> call.on(six, 6));
    }

    // ---- 17: move ----

    @Says(promise = 17, sentence = "It moves: the HOME that it had.")
    static void movesToTheFirstAndTheLastCell() {
        OldFences x = Kit.told("family at 14 climbs 0;family at 14 climbs 0");
        Kit.due("to 0", x.move(0, 0), 14);
        Kit.due("to 35", x.move(0, 35), 0);
        Kit.due("to where it is", x.move(0, 35), 35);
        Kit.due("to the other one's home", x.move(0, 14), 35);
        Kit.due("the other one stays", x.family(1, 0), 14);
    }

    @Says(promise = 17, sentence = "CELLS 0 to 35")
    static void moveToNoCell() {
        for (int cell : Edges.NO_CELLS) {
            Edges.refused("move(0, " + cell + ")", Edges.BOUNDS, x -> x.move(0, cell));
        }
    }

    @Says(promise = 17, sentence = "FAMILIES (at most 6, numbered from 0 on)")
    static void moveOfNoFamily() {
        boundsOfFamilies("move", (x, family) -> x.move(family, 0));
    }

    // ---- 18: learn ----

    @Says(promise = 18, sentence = "It learns to climb: CLIMBS that it had.")
    static void learnsFromNoneToAll() {
        OldFences x = Kit.told("family at 14 climbs 5 eyes 7;family at 14 climbs 6");
        Kit.due("all", x.learn(0, 999), 5);
        Kit.due("none", x.learn(0, 0), 999);
        Kit.due("none again", x.learn(0, 0), 0);
        Kit.due("eyes stay", x.family(0, 2), 7);
        Kit.due("the other one stays", x.family(1, 1), 6);
    }

    @Says(promise = 18, sentence = "n is none (0 to 999)")
    static void learnsWhatIsNone() {
        for (int n : Edges.NO_HEIGHTS) {
            Edges.refused("learn(1, " + n + ")", Edges.ARGUMENT, x -> x.learn(1, n));
        }
    }

    @Says(promise = 18, sentence = "Of several exceptions the one told first is thrown")
    static void learnOfNoFamily() {
        boundsOfFamilies("learn", (x, family) -> x.learn(family, 5));
        for (int family : Edges.NO_FAMILIES) {
            Edges.refused("learn(" + family + ", 1000)", Edges.BOUNDS, x -> x.learn(family, 1000));
        }
    }

    // ---- all acts ----

    @Says(promise = 11, sentence = "(each also if it changes nothing)")
    static void anActThatChangesNothingIsAnAct() {
        dueAct("years", x -> x.years(1));
        dueAct("raise", x -> x.raise(WITHOUT));
        dueAct("pull", x -> x.pull(0));
        dueAct("gate as it is", x -> bit(x.gate(0, true)));
        dueAct("string as it is", x -> bit(x.string(0, false)));
        dueAct("again as high", x -> x.again(0, 4));
        dueAct("forgive", x -> x.forgive(1));
        dueAct("move to its home", x -> x.move(0, 7));
        dueAct("learn what it can", x -> x.learn(1, 7));
    }

    /** The call is one act more, and undone all is as ahead of it. */
    private static void dueAct(String what, ToLongFunction<OldFences> call) {
        OldFences x = Edges.lively("year 777");
        int before = x.count(11);
        call.applyAsLong(x);
        Kit.due(what + " is an act", x.count(11), before + 1);
        Kit.due(what + " is undone", x.undo(), true);
        Edges.alike(what + ", undone,", x, Edges.lively("year 777"));
    }
}
