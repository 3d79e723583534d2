/** Promises 9 and 19 to 42: what is open, ways, sight, lands, ladders, tops, what was seen of a fence. */
public final class WaysTest {
    public static void main(String[] args) {
        open();
        ways();
        meetings();
        sights();
        pulls();
        closes();
        closesOfWindingWays();
        lands();
        ladders();
        tops();
        seen();
        losesAndGives();
        wrongCalls();
        Kit.close("WaysTest");
    }

    private static void open() {
        OldFences x = Kit.told("fence 0 1 high 20;fence 1 2 high 20 gate;fence 2 3");
        Kit.due("lower", x.open(0, 19), false);
        Kit.due("as high", x.open(0, 20), true);
        Kit.due("a gate", x.open(1, 0), true);
        Kit.due("high 0", x.open(2, 0), true);
        Kit.due("none", x.open(3, 999), true);
    }

    /** A wall between the rows 2 and 3 with one way through it. */
    private static OldFences walled(String through) {
        return Kit.told("row 2 high 50" + through);
    }

    private static void ways() {
        OldFences x = walled(";fence 13 19 high 29;family at 13 climbs 29;family at 13 climbs 28;family at 1 climbs 50");
        Kit.due("far of its home", x.far(0, 13), 0);
        Kit.due("far over 29", x.far(0, 19), 3);
        Kit.due("far behind", x.far(0, 18), 4);
        Kit.due("far of a lesser climber", x.far(1, 19), -1);
        Kit.due("far by the lower fence", x.far(2, 18), 6);
        Kit.due("far by the lower fence, not over 50", x.far(2, 23), 9);
        Kit.due("far over 50, not around", x.far(2, 22), 8);
        Kit.due("ways of all", x.family(0, 4), 36);
        Kit.due("ways of half", x.family(1, 4), 18);
        Kit.due("part of all", x.family(0, 5), 100);
        Kit.due("part of half", x.family(1, 5), 50);
        OldFences gate = walled(";fence 13 19 high 999 gate;family at 13 climbs 0");
        Kit.due("far by a gate", gate.far(0, 19), 1);
        OldFences shut = Kit.told("fence 0 1 high 9;fence 0 6 high 9;family at 0 climbs 8;family at 35 climbs 8");
        Kit.due("ways of one", shut.family(0, 4), 1);
        Kit.due("part of one", shut.family(0, 5), 2);
        Kit.due("part of 35", shut.family(1, 5), 97);
    }

    private static void meetings() {
        OldFences x = walled(";family at 13 climbs 50;family at 19 climbs 49;family at 19 climbs 50;family at 12 climbs 50");
        Kit.due("one does not come", x.meet(0, 1), false);
        Kit.due("nor turned", x.meet(1, 0), false);
        Kit.due("both come", x.meet(0, 2), true);
        Kit.due("of one home", x.meet(1, 2), true);
        Kit.due("halfway behind the wall", x.halfway(0, 1), 19);
        Kit.due("halfway of one home", x.halfway(1, 2), 19);
        Kit.due("halfway, the least cell", x.halfway(0, 3), 12);
        OldFences apart = walled(";family at 13 climbs 0;family at 19 climbs 0");
        Kit.due("no halfway", apart.halfway(0, 1), -1);
        OldFences free = Kit.told("family at 35 climbs 0;family at 0 climbs 0");
        Kit.due("halfway without fences", free.halfway(0, 1), 0);
    }

    private static void sights() {
        OldFences x = Kit.told("family at 7 climbs 0 eyes 20;family at 10 climbs 0 eyes 21;family at 31 climbs 0;fence 8 9 high 20 gate;fence 19 25");
        Kit.due("itself", x.sees(0, 7), true);
        Kit.due("beside", x.sees(0, 8), true);
        Kit.due("over one as high as its eyes", x.sees(0, 9), false);
        Kit.due("behind it", x.sees(0, 11), false);
        Kit.due("the other one", x.sees(1, 7), true);
        Kit.due("to the rim", x.sees(1, 6), true);
        Kit.due("up", x.sees(2, 1), true);
        Kit.due("down", x.sees(0, 31), true);
        Kit.due("not in line", x.sees(0, 14), false);
        Kit.due("the next row's begin", x.sees(1, 12), false);
        Kit.due("waves", x.waves(), 1);
        Kit.due("hidden", x.hidden(), 2);
        x.move(2, 22);
        Kit.due("waves of the moved one", x.waves(), 1);
        Kit.due("hidden of the moved one", x.hidden(), 0);
        OldFences blind = Kit.told("family at 7 climbs 0 eyes 0;fence 7 8");
        Kit.due("eyes 0 over high 0", blind.sees(0, 8), false);
        Kit.due("eyes 0 without a fence", blind.sees(0, 6), true);
        Kit.due("one alone is hidden", blind.hidden(), 1);
        Kit.due("no waves of one", blind.waves(), 0);
        OldFences none = new OldFences();
        Kit.due("none hidden", none.hidden(), 0);
        Kit.due("none waves", none.waves(), 0);
        OldFences same = Kit.told("family at 7 climbs 0 eyes 0;family at 7 climbs 0 eyes 0");
        Kit.due("of one home they wave", same.waves(), 1);
        Kit.due("of one home none is hidden", same.hidden(), 0);
    }

    private static void pulls() {
        OldFences x = Kit.told("row 0 high 30;row 1 high 20;row 2 high 10;fence 0 6 high 5 gate");
        Kit.due("none of one cell", x.pulls(3, 3, 0), 0);
        Kit.due("by the gate, two", x.pulls(0, 18, 0), 2);
        Kit.due("by 10, one", x.pulls(5, 23, 10), 1);
        Kit.due("by 19, one", x.pulls(5, 23, 19), 1);
        Kit.due("by 20, none", x.pulls(5, 23, 20), 0);
        Kit.due("lowest", x.lowest(5, 23), 20);
        Kit.due("lowest turned", x.lowest(23, 5), 20);
        Kit.due("lowest by the gate", x.lowest(5, 6), 0);
        Kit.due("lowest of one cell", x.lowest(5, 5), 0);
        OldFences high = Kit.told("fence 0 1 high 999;fence 0 6 high 999");
        Kit.due("lowest 999", high.lowest(0, 35), 999);
        Kit.due("pulls of a corner", high.pulls(35, 0, 998), 1);
        Kit.due("pulls at 999", high.pulls(35, 0, 999), 0);
        OldFences odd = Kit.told("fence 0 1 high 998;fence 0 6 high 999");
        Kit.due("lowest 998", odd.lowest(35, 0), 998);
        OldFences low = Kit.told("fence 0 1 high 1;fence 0 6 high 2");
        Kit.due("lowest 1", low.lowest(35, 0), 1);
    }

    private static void closes() {
        OldFences x = walled(";fence 13 19 gate;fence 14 20 high 20");
        Kit.due("none of one cell", x.closes(3, 3, 5), -1);
        Kit.due("by the gate", x.closes(0, 35, 19), 1);
        Kit.due("by two", x.closes(0, 35, 20), 2);
        Kit.due("a corner has two", x.closes(0, 35, 50), 2);
        Kit.due("the rim has three", x.closes(3, 32, 50), 3);
        Kit.due("the midst has four", x.closes(8, 27, 50), 4);
        Kit.due("beside each other, with the wall", x.closes(8, 9, 0), 3);
        Kit.due("beside each other, over the wall", x.closes(8, 9, 50), 4);
        Kit.due("two gaps", x.closes(8, 27, 20), 2);
        x.gate(43, false);
        x.pull(43);
        x.raise(43);
        x.years(1);
        Kit.due("none left", x.closes(8, 27, 0), 0);
    }

    /** Here the ways found first must give borders back to later ones, and these be gone along again. */
    private static void closesOfWindingWays() {
        Kit.due("three sides of cell 9", fencedOn(2, 4, 8, 28, 45, 46).closes(21, 9, 0), 3);
        Kit.due("three sides of cell 13", fencedOn(2, 11, 13, 15, 17, 40, 42, 51, 58).closes(15, 13, 0), 3);
        Kit.due("three sides of cell 1", fencedOn(7, 20, 22, 28, 33, 40, 43, 48, 49, 50).closes(28, 1, 0), 3);
        Kit.due("two ways", fencedOn(5, 10, 16, 19, 20, 24, 26, 36, 40, 42, 46, 52, 58).closes(1, 31, 0), 2);
        Kit.due("four sides", fencedOn(0, 1, 11, 14, 15, 16, 24, 34, 36, 45, 59).closes(27, 8, 0), 4);
    }

    /** Fences on these borders, each high 1. */
    private static OldFences fencedOn(int... borders) {
        OldFences x = new OldFences();
        for (int border : borders) {
            x.raise(border);
        }
        x.years(1);
        return x;
    }

    private static void lands() {
        OldFences x = Kit.told("row 0 high 30;row 3 high 20;fence 0 1 high 25;fence 4 5 high 40");
        Kit.due("lands of 0", x.lands(0), 5);
        Kit.due("wide of 0", x.wide(0), 18);
        Kit.due("land of a corner", x.land(0, 0), 1);
        Kit.due("land of the first row", x.land(2, 0), 4);
        Kit.due("land of the midst", x.land(6, 19), 18);
        Kit.due("land of the lowest", x.land(35, 19), 12);
        Kit.due("lands of 20", x.lands(20), 4);
        Kit.due("wide of 20", x.wide(20), 30);
        Kit.due("lands of 25", x.lands(25), 3);
        Kit.due("lands of 30", x.lands(30), 1);
        Kit.due("lands of 999", x.lands(999), 1);
        Kit.due("wide of 30", x.wide(30), 36);
        Kit.due("lands of 0 again", x.lands(0), 5);
        Kit.due("wide of 20 behind lands of 0", x.wide(20), 30);
        Kit.due("land of 30 behind wide of 20", x.land(0, 30), 36);
        // the first row from 1 to 4 in a line
        Kit.due("gaps of 0", x.gaps(0), 3);
        Kit.due("gaps of 25", x.gaps(25), 4);
        Kit.due("gaps of 30", x.gaps(30), 1);
        Kit.due("gaps without fences", new OldFences().gaps(0), 0);
        Kit.due("all without families", x.all(0), true);
        Kit.due("reach without families", x.reach(), 0);
        Kit.county(x, "family at 35 climbs 0");
        Kit.due("all of one", x.all(0), true);
        Kit.county(x, "family at 6 climbs 0");
        Kit.due("all of two", x.all(19), false);
        Kit.due("all of two at 20", x.all(20), true);
        Kit.due("reach", x.reach(), 20);
        Kit.county(x, "family at 5 climbs 0");
        Kit.due("reach of three", x.reach(), 30);
        x.again(34, 0);
        x.raise(3);
        Kit.due("reach of three, higher", x.reach(), 30);
        x.again(35, 1);
        Kit.due("reach of three, lower", x.reach(), 20);
        OldFences odd = Kit.told("row 1 high 21;family at 0 climbs 0;family at 35 climbs 0");
        Kit.due("reach 21", odd.reach(), 21);
        OldFences highest = Kit.told("row 1 high 999;family at 0 climbs 0;family at 35 climbs 0");
        Kit.due("reach 999", highest.reach(), 999);
    }

    private static void ladders() {
        OldFences x = Kit.told("row 0 high 30;row 3 high 20;fence 0 1 high 25;fence 4 5 high 40");
        Kit.due("no ladders without families", x.ladders(), 0);
        Kit.due("one", x.one(0, 35), 50);
        Kit.due("one, turned", x.one(35, 0), 50);
        Kit.due("one beside", x.one(0, 1), 25);
        Kit.due("one around", x.one(5, 4), 40);
        Kit.due("one of one cell", x.one(5, 5), 0);
        Kit.due("one of nothing between", x.one(6, 23), 0);
        Kit.county(x, "family at 0 climbs 0;family at 35 climbs 999");
        Kit.due("ladders of two", x.ladders(), 50);
        Kit.county(x, "family at 2 climbs 0");
        // from 0 to 2 by 25 is less than by 30 a second time
        Kit.due("ladders of three", x.ladders(), 75);
        Kit.county(x, "family at 5 climbs 0");
        Kit.due("ladders of four", x.ladders(), 105);
        Kit.county(x, "family at 23 climbs 0;family at 6 climbs 0");
        Kit.due("ladders of six", x.ladders(), 105);
        x.gate(31, true);
        Kit.due("a gate costs nothing", x.ladders(), 75);
        OldFences star = Kit.told("family at 13 climbs 0;family at 15 climbs 0;family at 8 climbs 0;family at 20 climbs 0;fence 13 14 high 3;fence 14 15 high 3;fence 8 14 high 3;fence 14 20 high 3;fence 13 7 high 5;fence 13 19 high 5;fence 13 12 high 9");
        Kit.county(star, "fence 8 7 high 5;fence 8 9 high 5;fence 8 2 high 9;fence 15 9 high 5;fence 15 21 high 5;fence 15 16 high 9;fence 20 19 high 5;fence 20 21 high 5;fence 20 26 high 9");
        Kit.due("all by the midst", star.ladders(), 12);
    }

    private static void tops() {
        OldFences x = Kit.told("row 2 high 50;fence 13 19 high 20;fence 0 1 high 80;fence 34 35 high 5 string;fence 12 13 high 50 gate");
        Kit.due("along the row", x.walk(21, 27, 20), 6);
        Kit.due("not along the lower one", x.walk(21, 27, 21), -1);
        Kit.due("from the gap", x.walk(23, 27, 50), 4);
        Kit.due("turned", x.walk(27, 23, 50), 4);
        Kit.due("up the gate's edge", x.walk(15, 21, 50), 2);
        Kit.due("border 0", x.walk(1, 8, 80), 1);
        Kit.due("border 0, higher", x.walk(1, 8, 81), -1);
        Kit.due("border 29", x.walk(40, 47, 5), 1);
        Kit.due("one corner", x.walk(48, 48, 999), 0);
        Kit.due("no edge at all", x.walk(0, 48, 0), -1);
        Kit.due("long of 0", x.hangs(0), 7);
        Kit.due("long of 50", x.hangs(50), 4);
        Kit.due("long of 80", x.hangs(80), 1);
        Kit.due("long of 81", x.hangs(81), 0);
        Kit.due("ends of 0", x.ends(0), 7);
        Kit.due("ends of 50", x.ends(50), 6);
        Kit.due("ends of 81", x.ends(81), 0);
        OldFences ring = Kit.told("fence 0 1;fence 6 7;fence 0 6;fence 1 7");
        Kit.due("a cross: long", ring.hangs(0), 4);
        Kit.due("a cross: ends", ring.ends(0), 4);
        OldFences box = Kit.told("fence 7 8;fence 7 6;fence 7 1;fence 7 13");
        Kit.due("a box: long", box.hangs(0), 4);
        Kit.due("a box: no ends", box.ends(0), 0);
        Kit.due("a box: around", box.walk(8, 16, 0), 2);
        Kit.due("high 0 is not high 1", box.hangs(1), 0);
    }

    private static void seen() {
        OldFences x = new OldFences();
        Kit.due("none told", x.seen(false), 1000);
        Kit.due("none told, best", x.seen(true), 0);
        Kit.due("ask of all", x.ask(), 99);
        Kit.feed(x, 15, 50);
        Kit.due("fits of one row", x.seen(false), fits(15, 50));
        // 59 in the year 20 is grown since 9 or so, and would be higher than 256 in 99
        int[] none = {10, 5, 20, 59, 99, 255};
        Kit.feed(x, none);
        Kit.due("none fits", x.seen(false), 0);
        Kit.feed(x, none);
        Kit.due("no best", x.seen(true), -1);
        Kit.feed(x, none);
        Kit.due("no ask", x.ask(), -1);
        Kit.feed(x, 9, 0, 10, 5, 29, 100);
        Kit.due("9 by 5 alone", x.seen(false), 1);
        Kit.feed(x, 9, 0, 10, 5, 29, 100);
        Kit.due("9 by 5, best", x.seen(true), 95);
        Kit.feed(x, 9, 0, 10, 5, 29, 100);
        Kit.due("ask of one", x.ask(), -1);
        // 85 years by 3 are 255 in 99, 64 years by 4 are 256 in 99; both are 252 in 98
        Kit.feed(x, 99, 255, 98, 252);
        Kit.due("255, and 256 told as 255", x.seen(false), 2);
        Kit.feed(x, 99, 255, 98, 252);
        Kit.due("the first of both", x.seen(true), 143);
        Kit.feed(x, 9, 9);
        Kit.due("off by one", x.seen(true), 1);
        Kit.feed(x, 0, 2);
        Kit.due("nothing was high in year 0", x.seen(false), 0);
        Kit.feed(x, 0, 1);
        Kit.due("off by one of 0", x.seen(false), 1000);
        // by 1 from 0 or 1; by 2 from 49 (100, 98)
        int[] few = {99, 99, 0, 0, 98, 98};
        Kit.feed(x, few);
        Kit.due("three fit", x.seen(false), 3);
        Kit.feed(x, few);
        Kit.due("the first of three", x.seen(true), 1);
        // in year 2 they would be 2, 1 and 0; in year 1 still 1, 0 and 0
        Kit.feed(x, few);
        Kit.due("ask parts them all", x.ask(), 2);
        // what is cut off the tape counts no more
        Kit.feed(x, 9, 9, 200, 0);
        x.end(2);
        Kit.due("one row", x.seen(false), fits(9, 9));
        // by 3 from 14 and by 4 from 35 are parted first in 15
        Kit.feed(x, 99, 255, 98, 252);
        Kit.due("ask of two", x.ask(), 15);
        wrongSeen(x, 100, 5);
        wrongSeen(x, 5, 5, 255, 0);
        wrongSeen(x, 5);
        wrongSeen(x, new int[42]);
        Kit.feed(x, new int[40]);
        Kit.due("40 bytes", x.seen(false), 1000);
        Kit.due("the fault is of texts alone", x.fault(), -1);
    }

    private static int fits(int... rows) {
        int fits = 0;
        for (int put = 0; put < 100; put++) {
            for (int grew = 0; grew < 10; grew++) {
                fits += doFit(put, grew, rows) ? 1 : 0;
            }
        }
        return fits;
    }

    private static boolean doFit(int put, int grew, int... rows) {
        for (int i = 0; i < rows.length; i += 2) {
            int high = rows[i] > put ? (rows[i] - put) * grew : 0;
            if (Math.abs(high - rows[i + 1]) > 1) {
                return false;
            }
        }
        return true;
    }

    private static void wrongSeen(OldFences x, int... bytes) {
        Kit.feed(x, bytes);
        Kit.dueArgument("seen", () -> x.seen(true));
        Kit.due("seen uses the tape up", x.end(1), false);
        Kit.feed(x, bytes);
        Kit.dueArgument("ask", () -> x.ask());
        Kit.due("ask uses the tape up", x.end(1), false);
    }

    private static void losesAndGives() {
        OldFences x = Kit.told("row 2 high 50;fence 13 19 high 20;family at 13 climbs 20;family at 13 climbs 19;fence 0 1 high 30;fence 0 6 high 25");
        Kit.due("ways", x.family(0, 4), 35);
        Kit.due("loses half", x.loses(0, 43), 18);
        Kit.due("loses none by another way", x.loses(0, 9), 0);
        Kit.due("loses none by one not open", x.loses(1, 43), 0);
        Kit.due("loses none by the wall", x.loses(0, 42), 0);
        Kit.due("gives a corner, the least border", x.family(0, 8), 0);
        Kit.due("gives half, the least border", x.family(1, 8), 42);
        x.learn(0, 50);
        Kit.due("gives none", x.family(0, 8), -1);
        Kit.due("loses none, by others", x.loses(0, 43), 0);
        x.move(1, 0);
        Kit.due("gives from within", x.family(1, 8), 0);
        OldFences free = Kit.told("fence 14 15 high 90;fence 8 9 high 90;fence 35 34 high 90 gate;fence 0 1 high 9;fence 0 6 high 9;family at 0 climbs 9");
        Kit.due("gives none within one land", free.family(0, 8), -1);
        OldFences other = Kit.told("fence 0 1 high 9;fence 0 6 high 9;fence 35 34 high 9;fence 35 29 high 9;fence 29 28 high 9;fence 29 23 high 9;family at 0 climbs 8");
        Kit.due("gives the rest, not the far corner", other.family(0, 8), 0);
        OldFences two = Kit.told("fence 0 1 high 9;fence 0 6 high 9;fence 1 2 high 9;fence 1 7 high 9;family at 35 climbs 0");
        Kit.due("gives none between two other lands", two.family(0, 8), 1);
        OldFences deep = Kit.told("fence 0 1 high 9;fence 0 6 high 9;fence 1 2 high 9;fence 1 7 high 9;family at 0 climbs 8");
        Kit.due("one pull, all but one more", deep.family(0, 8), 30);
        deep.pull(30);
        Kit.due("then the rest", deep.family(0, 8), 0);
    }

    private static void wrongCalls() {
        OldFences x = Kit.told("family at 0 climbs 0;family at 1 climbs 0");
        for (int no : new int[] {-1, 36, Integer.MAX_VALUE, Integer.MIN_VALUE}) {
            Kit.dueBounds("far", () -> x.far(0, no));
            Kit.dueBounds("far", () -> x.far(no, 0));
            Kit.dueBounds("sees", () -> x.sees(0, no) ? 1 : 0);
            Kit.dueBounds("sees", () -> x.sees(no, 0) ? 1 : 0);
            Kit.dueBounds("meet", () -> x.meet(0, no) ? 1 : 0);
            Kit.dueBounds("meet", () -> x.meet(no, no) ? 1 : 0);
            Kit.dueBounds("halfway", () -> x.halfway(no, 0));
            Kit.dueBounds("halfway", () -> x.halfway(no, no));
            Kit.dueBounds("pulls", () -> x.pulls(no, 0, 1000));
            Kit.dueBounds("pulls", () -> x.pulls(0, no, -1));
            Kit.dueBounds("lowest", () -> x.lowest(no, 0));
            Kit.dueBounds("lowest", () -> x.lowest(0, no));
            Kit.dueBounds("closes", () -> x.closes(no, 0, 1000));
            Kit.dueBounds("closes", () -> x.closes(0, no, 0));
            Kit.dueBounds("land", () -> x.land(no, 1000));
            Kit.dueBounds("one", () -> x.one(no, 0));
            Kit.dueBounds("one", () -> x.one(0, no));
            Kit.dueBounds("loses", () -> x.loses(no, 0));
        }
        for (int no : new int[] {-1, 60}) {
            Kit.dueBounds("open", () -> x.open(no, 1000) ? 1 : 0);
            Kit.dueBounds("loses", () -> x.loses(0, no));
        }
        for (int no : new int[] {-1, 49}) {
            Kit.dueBounds("walk", () -> x.walk(no, 0, 1000));
            Kit.dueBounds("walk", () -> x.walk(0, no, 0));
        }
        for (int no : new int[] {-1, 1000}) {
            Kit.dueArgument("open", () -> x.open(0, no) ? 1 : 0);
            Kit.dueArgument("pulls", () -> x.pulls(0, 0, no));
            Kit.dueArgument("closes", () -> x.closes(0, 0, no));
            Kit.dueArgument("lands", () -> x.lands(no));
            Kit.dueArgument("wide", () -> x.wide(no));
            Kit.dueArgument("land", () -> x.land(0, no));
            Kit.dueArgument("gaps", () -> x.gaps(no));
            Kit.dueArgument("all", () -> x.all(no) ? 1 : 0);
            Kit.dueArgument("walk", () -> x.walk(0, 0, no));
            Kit.dueArgument("hangs", () -> x.hangs(no));
            Kit.dueArgument("ends", () -> x.ends(no));
        }
        Kit.dueArgument("meet of one", () -> x.meet(1, 1) ? 1 : 0);
        Kit.dueArgument("halfway of one", () -> x.halfway(0, 0));
    }
}
