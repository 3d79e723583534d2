/** Promises 9 and 43 to 49: shares, pairs, choices of two, odds, and which fence or family is the most of all. */
public final class FamiliesTest {
    public static void main(String[] args) {
        shares();
        pairs();
        rests();
        odds();
        mostOfAll();
        twins();
        counts();
        Kit.close("FamiliesTest");
    }

    private static void shares() {
        OldFences x = Kit.told("family at 7 climbs 0");
        Kit.due("all of one", x.family(0, 7), 36);
        Kit.county(x, "family at 7 climbs 0;family at 10 climbs 0");
        Kit.due("the least of one home", x.family(0, 7), 18);
        Kit.due("none for the other one", x.family(1, 7), 0);
        Kit.due("the far one", x.family(2, 7), 18);
        x.move(1, 10);
        Kit.due("the second one has it", x.family(1, 7), 18);
        Kit.due("none for the third one", x.family(2, 7), 0);
        x.move(1, 7);
        x.move(2, 9);
        Kit.due("as near ones go to the least", x.family(0, 7), 18);
        Kit.due("the rest", x.family(2, 7), 18);
        x.move(2, 8);
        Kit.due("beside", x.family(0, 7), 12);
        Kit.due("beside, the rest", x.family(2, 7), 24);
        x.move(2, 14);
        // behind the bend lie the 16 cells of X and Y from 2 on
        Kit.due("aslant", x.family(0, 7), 20);
    }

    private static void pairs() {
        OldFences x = new OldFences();
        Kit.due("none of none", x.pairs(-1), 0);
        Kit.dueBounds("no family 0", () -> x.pairs(0));
        Kit.county(x, "family at 0 climbs 0");
        Kit.due("none of one", x.pairs(-1), 0);
        Kit.due("with none", x.pairs(0), -1);
        Kit.county(x, "family at 5 climbs 0;family at 1 climbs 0");
        Kit.due("one of three", x.pairs(-1), 1);
        due(x, 2, -1, 0);
        Kit.county(x, "family at 4 climbs 0");
        Kit.due("two of four", x.pairs(-1), 2);
        due(x, 2, 3, 0, 1);
        x.move(1, 0);
        x.move(2, 0);
        x.move(3, 0);
        due(x, 1, 0, 3, 2);
        Kit.dueBounds("no family 4", () -> x.pairs(4));
        Kit.dueBounds("no family -2", () -> x.pairs(-2));
        // as many pairs as can be, though a pair of 1 and 2 costs less: 0 meets 1 alone, 3 meets 2 alone
        OldFences row = Kit.told("family at 0 climbs 10;family at 1 climbs 20;family at 2 climbs 20;family at 3 climbs 10;fence 0 6 high 30;fence 0 1 high 10;fence 1 7 high 30;fence 1 2 high 20;fence 2 8 high 30;fence 2 3 high 10;fence 3 9 high 30;fence 3 4 high 30");
        Kit.due("two, not one", row.pairs(-1), 2);
        due(row, 1, 0, 3, 2);
        row.move(3, 35);
        Kit.due("one", row.pairs(-1), 1);
        due(row, 1, 0, -1, -1);
        row.learn(0, 9);
        due(row, -1, 2, 1, -1);
        // FARS of the lesser one count, by what it climbs: 0 goes over, 1 goes around
        OldFences cost = Kit.told("family at 0 climbs 99;family at 2 climbs 99;family at 12 climbs 99;fence 0 1 high 40;fence 0 6 high 35");
        Kit.due("far of 1", cost.far(0, 2), 6);
        due(cost, -1, 2, 1);
        OldFences ties = Kit.told("family at 14 climbs 0;family at 13 climbs 0;family at 15 climbs 0");
        due(ties, 1, 0, -1);
        OldFences six = Kit.told("family at 0 climbs 0;family at 35 climbs 0;family at 1 climbs 0;family at 34 climbs 0;family at 5 climbs 0;family at 30 climbs 0");
        Kit.due("three of six", six.pairs(-1), 3);
        // 0 and 2 by 1, 1 and 4 by 5, 3 and 5 by 4: 10; 4 and 5 put together alone would be 10
        due(six, 2, 4, 0, 5, 1, 3);
    }

    private static void due(OldFences x, int... partners) {
        for (int family = 0; family < partners.length; family++) {
            Kit.due("pairs(" + family + ")", x.pairs(family), partners[family]);
        }
    }

    private static void rests() {
        OldFences x = Kit.told("family at 0 climbs 99;family at 21 climbs 999;family at 28 climbs 100;fence 0 6 high 5");
        // both pull: 5 is more than 3; both keep: 0 of 99 climbs is less than the 1 of who pulls alone
        Kit.due("both pull", x.rests(0, 1), 1);
        Kit.due("turned", x.rests(1, 0), 1);
        Kit.due("1 of 100 climbs is as much", x.rests(1, 2), 9);
        Kit.due("as much, turned", x.rests(2, 1), 9);
        x.learn(2, 99);
        Kit.due("0 of 99 climbs is less", x.rests(1, 2), 1);
        restsOfSore(x);
        Kit.dueArgument("of one", () -> x.rests(1, 1));
        Kit.dueBounds("of none", () -> x.rests(0, 3));
        Kit.dueBounds("of none twice", () -> x.rests(-1, -1));
    }

    /** Who pulls alone has less by its own SORE: 1 up to 9, 0 from 10 on, then below 0. */
    private static void restsOfSore(OldFences x) {
        Kit.law(x, "sore 9");
        x.years(1);
        Kit.due("sore 9, and 1 by pulling alone", x.rests(0, 1), 1);
        Kit.law(x, "sore 1");
        x.years(1);
        Kit.due("sore 10, and 0 by pulling alone", x.rests(0, 1), 9);
        Kit.due("sore 10, turned", x.rests(1, 0), 9);
        Kit.due("the other one is not sore", x.rests(0, 2), 1);
        Kit.due("the other one first", x.rests(2, 0), 1);
        Kit.law(x, "sore 60");
        x.years(2);
        Kit.due("sore 99", x.rests(1, 0), 9);
        x.forgive(0);
        Kit.due("forgiven", x.rests(1, 0), 1);
        x.learn(0, 100);
        Kit.due("climbs 100", x.rests(1, 0), 9);
    }

    private static void odds() {
        OldFences x = Kit.told("family at 0 climbs 0;quarrel 33;fence 0 1 high 5");
        int[] due = {10000, 6700, 4489, 3007, 2014};
        for (int n = 0; n <= 4; n++) {
            Kit.due("odds of " + n, x.odds(0, n), due[n]);
        }
        Kit.dueArgument("odds of 5", () -> x.odds(0, 5));
        Kit.dueArgument("odds of -1", () -> x.odds(0, -1));
        Kit.dueBounds("odds of none", () -> x.odds(1, 5));
        Kit.law(x, "sore 17");
        x.years(1);
        Kit.due("with the sore", x.odds(0, 2), 2500);
        x.years(3);
        Kit.due("100 at most", x.odds(0, 1), 0);
        Kit.due("sure of no year", x.odds(0, 0), 10000);
    }

    private static void mostOfAll() {
        OldFences x = new OldFences();
        Kit.due("no oldest", x.oldest(), -1);
        Kit.due("no highest", x.highest(true), -1);
        Kit.due("no lowliest", x.highest(false), -1);
        Kit.due("no sorest", x.sorest(), -1);
        Kit.county(x, "fence 1 2 age 3 high 8;fence 0 6 age 3 high 9;fence 2 3 age 2 high 9;fence 3 4 high 8");
        Kit.due("oldest", x.oldest(), 1);
        Kit.due("highest", x.highest(true), 2);
        Kit.due("lowliest", x.highest(false), 1);
        OldFences first = Kit.told("fence 0 1 age 4 high 8 string;fence 1 2 age 4 high 8");
        Kit.due("oldest 0", first.oldest(), 0);
        Kit.due("highest 0", first.highest(true), 0);
        Kit.due("lowliest 0", first.highest(false), 0);
        Kit.due("string 0", first.count(7), 1);
        x.raise(59);
        Kit.due("lowliest of 0", x.highest(false), 59);
        x.again(1, 8);
        Kit.due("oldest then", x.oldest(), 30);
        Kit.county(x, "family at 0 climbs 0;family at 0 climbs 0;family at 3 climbs 0");
        Kit.due("none is sore", x.sorest(), -1);
        Kit.law(x, "sore 5");
        x.years(1);
        Kit.due("of as sore ones", x.sorest(), 2);
        x.forgive(2);
        Kit.due("the least of as sore ones", x.sorest(), 0);
        x.forgive(0);
        Kit.due("the other one", x.sorest(), 1);
        x.forgive(1);
        x.move(1, 35);
        Kit.law(x, "sore 1");
        x.years(1);
        x.forgive(0);
        Kit.due("sore by 1", x.sorest(), 2);
    }

    private static void twins() {
        OldFences x = Kit.told("family at 0 climbs 5;family at 9 climbs 5;family at 8 climbs 5 eyes 61");
        Kit.due("one pair", x.twins(), 1);
        Kit.county(x, "family at 0 climbs 5 eyes 60;family at 2 climbs 6 eyes 61");
        Kit.due("three pairs", x.twins(), 3);
        x.learn(2, 6);
        Kit.due("four pairs", x.twins(), 4);
        Kit.due("none of none", new OldFences().twins(), 0);
    }

    private static void counts() {
        OldFences x = Kit.told("fence 0 1 high 5 gate;fence 1 2 high 6 gate string;fence 2 3 high 7;family at 0 climbs 0;quarrel 7;year 12");
        Kit.law(x, "grow 2;sore 3");
        x.years(1);
        x.raise(40);
        int[] due = {1, 4, 1, 2, 13, 7, 2, 1, 22, 3, 1, 2};
        for (int what = 0; what < due.length; what++) {
            Kit.due("count(" + what + ")", x.count(what), due[what]);
        }
    }
}
