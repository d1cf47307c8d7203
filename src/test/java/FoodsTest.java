/** Promises 9 to 14: FOODS moved, opened, cooked, frozen, thawed, eaten, thrown out; OFF IN, LOST. */
public final class FoodsTest {
    private static final Check check = new Check("FoodsTest");
    private static final int BAD = OffFirst.BAD, NO = OffFirst.NO, NONE = OffFirst.NONE;

    public static void main(String[] args) {
        move();
        make();
        makeChangesAgeing();
        takeAway("eat", 1);
        takeAway("throwOut", 2);
        offIn();
        offInFarAhead();
        lost();
        check.end();
    }

    private static void move() {
        OffFirst x = check.laid("c40,5,2;c50,5,2;c60,5,1;f0,0,1,9,0,0;f0,0,2,9,0,0;f0,1,3,9,0,0;f0,2,4,9,0,0;");
        check.due("move into room", x.move(0, 1), 2);
        check.due("its cell", x.food(0, 1), 1);
        check.due("no room", x.move(1, 1), NO);
        check.due("no room", x.move(1, 2), NO);
        check.due("there already", x.move(1, 0), NO);
        check.due("there already, in a full one", x.move(3, 2), NO);
        check.due("its cell stays", x.food(1, 1), 0);
        check.due("no cell 3", x.move(1, 3), BAD);
        check.due("no cell -1", x.move(1, -1), BAD);
        check.due("no food 4", x.move(4, 0), BAD);
        check.due("no food -1", x.move(-1, 0), BAD);
        check.due("eat", x.eat(3), 0);
        check.due("an eaten one takes no room", x.move(1, 2), 1);
        check.due("not there", x.move(3, 0), NO);
        check.due("not there, and no such cell", x.move(3, 3), BAD);
        check.due("throw out", x.throwOut(2), 0);
        check.due("a thrown one takes no room", x.move(1, 1), 2);
        check.due("not there", x.move(2, 0), NO);
        check.due("into the empty one", x.move(1, 0), 1);
        x.hours(1);
        check.due("ages by its new cell", x.food(0, 2), 60);
        check.due("ages by its new cell", x.food(1, 2), 50);
    }

    private static void make() {
        // Rows: the kind that is; columns: thaw, open, cook, freeze; what is answered.
        int[][] answers = {{NO, 0, 0, 0}, {NO, NO, 1, 1}, {NO, NO, NO, 2}, {3, NO, NO, NO}};
        int[] becomes = {1, 1, 2, 3};
        for (int kind = 0; kind < 4; kind++) {
            for (int k = 0; k < 4; k++) {
                OffFirst x = check.laid("c40,5,2;f" + kind + ",0,1,9,0,0;");
                check.due("make " + k + " of kind " + kind, x.make(0, k), answers[kind][k]);
                int now = answers[kind][k] == NO ? kind : becomes[k];
                check.due("kind then", x.food(0, 0), now);
                check.due("limit then", x.food(0, 3), now == 2 ? 50 * 105 : 450);
                check.due("age then", x.food(0, 2), 0);
                x.throwOut(0);
                check.due("not there: make " + k, x.make(0, k), NO);
                check.due("kind stays", x.food(0, 0), now);
            }
        }
        OffFirst x = new OffFirst();
        check.due("make 4", x.make(0, 4), BAD);
        check.due("make -1", x.make(0, -1), BAD);
        check.due("no food 1", x.make(1, 1), BAD);
        check.due("no food -1", x.make(-1, 1), BAD);
        x.eat(0);
        check.due("BAD ahead of NO", x.make(0, 4), BAD);
        check.due("an eaten one", x.make(0, 1), NO);
    }

    private static void makeChangesAgeing() {
        OffFirst x = check.laid("c40,5,2;o0;f0,0,1,9,0,0;");
        x.hours(2);
        check.due("plain", x.food(0, 2), 105);
        x.make(0, 1);
        x.hours(2);
        check.due("opened", x.food(0, 2), 305);
        check.due("305 of 450", x.food(0, 5), 0);
        x.hours(2);
        check.due("505 of 450", x.food(0, 5), 1);
        x.make(0, 2);
        check.due("cooked: 505 of 5250", x.food(0, 5), 0);
        x.hours(2);
        check.due("cooked", x.food(0, 2), 605);
        x.make(0, 3);
        check.due("frozen: 605 of 450", x.food(0, 5), 1);
        x.hours(20);
        check.due("frozen", x.food(0, 2), 625);
        x.make(0, 0);
        x.hours(1);
        check.due("thawed ages as opened", x.food(0, 2), 725);
    }

    private static int take(OffFirst x, int fate, int i) {
        return fate == 1 ? x.eat(i) : x.throwOut(i);
    }

    private static void takeAway(String name, int fate) {
        OffFirst x = check.laid("c40,5,9;f0,0,1,2,0,0;f0,0,1,1,0,0;f0,0,1,240,0,0;");
        x.hours(1);
        check.due(name + " a good one", take(x, fate, 0), 0);
        check.due(name + " one at its limit", take(x, fate, 1), 1);
        check.due("its fate", x.food(0, 4), fate);
        check.due("its fate", x.food(1, 4), fate);
        check.due("the other is there", x.food(2, 4), 0);
        check.due("there are", x.count(7), 1);
        check.due(name + " it again", take(x, fate, 0), NO);
        check.due("the other way", take(x, 3 - fate, 1), NO);
        check.due("its fate stays", x.food(1, 4), fate);
        check.due(name + " no food 3", take(x, fate, 3), BAD);
        check.due(name + " no food -1", take(x, fate, -1), BAD);
        check.due("lost", x.lost(0), 0);
    }

    private static void offIn() {
        OffFirst x = check.laid("c40,20,9;c0,0,1;c200,99,1;o2;f0,0,1,3,0,0;f1,1,1,3,0,0;f2,0,1,3,0,0;f3,0,1,3,0,0;");
        // LIMIT 150: 50, 50, 70 in cell 0; 10 an HOUR in cell 1; 210 in cell 2.
        check.due("plain where it lies", x.offIn(0, 0), 3);
        check.due("plain in a full cell", x.offIn(0, 1), 15);
        check.due("plain in the warm one", x.offIn(0, 2), 1);
        check.due("opened elsewhere: 100, 200", x.offIn(1, 0), 2);
        check.due("opened where it lies", x.offIn(1, 1), 8);
        // LIMIT 4950: four days of 1220 are 4880, an HOUR more is 4930, two are 4980.
        check.due("cooked", x.offIn(2, 0), 98);
        check.due("cooked, cold", x.offIn(2, 1), 495);
        check.due("frozen", x.offIn(3, 2), 150);
        check.due("no food 4", x.offIn(4, 0), BAD);
        check.due("no food -1", x.offIn(-1, 0), BAD);
        check.due("no cell 3", x.offIn(0, 3), BAD);
        check.due("no cell -1", x.offIn(0, -1), BAD);
        check.due("hours 2", x.hours(2), 0);
        // 100 of 150; the next HOUR is the opened one.
        check.due("from now on", x.offIn(0, 0), 1);
        check.due("from now on, cold", x.offIn(0, 1), 5);
        check.due("at 40 of 150 now", x.offIn(1, 1), 6);
        check.due("hours 1", x.hours(1), 1);
        check.due("off now", x.offIn(0, 1), 0);
        check.due("at 60 of 150, twice 50 an HOUR", x.offIn(1, 0), 1);
        x.throwOut(0);
        check.due("not there", x.offIn(0, 1), NO);
        check.due("not there, no such cell", x.offIn(0, 3), BAD);
    }

    private static void offInFarAhead() {
        OffFirst x = check.laid("c0,0,9;f3,0,1,100,0,0;f3,0,1,101,0,0;f3,0,1,240,0,0;f2,0,1,240,0,0;");
        check.due("5000 hours", x.offIn(0, 0), 5000);
        check.due("5050 hours", x.offIn(1, 0), NONE);
        check.due("12000 hours", x.offIn(2, 0), NONE);
        check.due("cooked for long: 16800 by 10", x.offIn(3, 0), 1680);
        x.hours(49);
        check.due("5001 hours", x.offIn(1, 0), NONE);
        x.hours(1);
        check.due("5000 hours then", x.offIn(1, 0), 5000);
        x.eat(1);
        check.due("NO ahead of NONE", x.offIn(1, 0), NO);
    }

    private static void lost() {
        OffFirst x = check.laid("c40,20,9;o2;f0,0,1,3,0,0;f1,0,2,4,0,0;f0,0,4,5,0,0;f3,0,8,10,0,0;f0,0,16,3,0,0;");
        x.throwOut(4);
        // Behind 1, 2, 3, 4, .. HOURS 50, 100, 170, 220, 270; LIMITS 150, 200 (at twice that), 250, 500 (by 1).
        int[] want = {0, 0, 2, 3, 3, 7};
        for (int n = 0; n < want.length; n++) {
            check.due("lost " + n, x.lost(n), want[n]);
        }
        check.due("lost 499", x.lost(499), 7);
        check.due("lost 500", x.lost(500), 15);
        check.due("lost 501", x.lost(501), BAD);
        check.due("lost -1", x.lost(-1), BAD);
        check.due("nothing went by", x.food(0, 2), 0);
        x.hours(3);
        check.due("lost now", x.lost(0), 3);
        check.due("lost in two", x.lost(2), 7);
        x.eat(0);
        check.due("an eaten one is not lost", x.lost(0), 2);
    }
}
