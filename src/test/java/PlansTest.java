/** Promises 15 to 19: PLAN, FREEZE, LIE, EXPECT, BUY. In a CELL of 40, 0, 9 a PLAIN FOOD ages by 50 an HOUR. */
public final class PlansTest {
    private static final Check check = new Check("PlansTest");
    private static final int BAD = OffFirst.BAD, NONE = OffFirst.NONE;
    private static final String CELL = "c40,0,9;";

    public static void main(String[] args) {
        planEvening();
        planOrder();
        planHungry();
        planTakesOldest();
        planOfSorts();
        planBad();
        freeze();
        freezeCooked();
        freezeNone();
        lie();
        lieRoom();
        lieOfSeveral();
        expect();
        buy();
        check.end();
    }

    private static void planDue(String what, OffFirst x, int cost, int... dishes) {
        check.due(what + ": cost", x.plan(dishes.length, -1), cost);
        for (int i = 0; i < dishes.length; i++) {
            check.due(what + ": dish " + i, x.plan(dishes.length, i), dishes[i]);
        }
    }

    private static void planEvening() {
        planDue("off as the evening begins", check.laid(CELL + "f0,0,7,18,0,0;d1;e0;"), 17, NONE);
        OffFirst x = check.laid(CELL + "f0,0,7,19,0,0;d1;e0;");
        planDue("good as it begins", x, 0, 0);
        planDue("one is all there is", x, 10, 0, NONE);
        x.hours(17);
        planDue("in an hour", x, 0, 0);
        x.hours(1);
        planDue("the hour that is now on", x, 0, 0);
        planDue("now and tomorrow", x, 10, 0, NONE);
        check.due("nothing is eaten", x.food(0, 4), 0);
        x.hours(1);
        planDue("it is over: off tomorrow", x, 17, NONE);
        OffFirst day = check.laid(CELL + "f0,0,7,43,0,0;d1;e0;");
        day.hours(19);
        planDue("in 23 hours", day, 0, 0);
        day.hours(23);
        planDue("of the next day, now", day, 0, 0);
    }

    private static void planOrder() {
        planDue("none ahead of a dish", check.laid(CELL + "f0,0,7,240,0,0;d1;"), 0, NONE, NONE);
        planDue("of two the first", check.laid(CELL + "f0,0,7,240,0,0;d2;d1;d1;e0;"), 0, 1);
        // Off at 50 HOURS: eaten on the first evening (18) or the second (42), not on the third (66).
        OffFirst x = check.laid(CELL + "f0,0,7,50,0,0;d1;");
        planDue("as late as can be", x, 0, NONE, 0, NONE);
        planDue("not off on the last one", x, 0, NONE, NONE);
        planDue("four evenings", x, 0, NONE, 0, NONE, NONE);
        planDue("no dishes", check.laid(CELL + "f0,0,7,50,0,0;"), 7, NONE, NONE, NONE);
        planDue("of two rows the first", check.laid(CELL + "f0,0,7,240,0,0;f0,0,7,240,0,1;d1;d2;e0;"),
                0, 0, 1);
        planDue("one and none", check.laid(CELL + "f0,0,7,240,0,0;d1;e0;"), 10, NONE, 0);
        // Only one is eaten when all of them are off on the next evening.
        planDue("the dearest is saved", check.laid(CELL + "f0,0,7,20,0,0;f0,0,9,20,0,1;f0,0,8,20,0,2;d1;d2;d4;"),
                15, 1, NONE);
        planDue("off at its limit on the last evening", check.laid(CELL + "f0,0,7,42,0,0;"), 7, NONE, NONE);
        planDue("not below", check.laid(CELL + "f0,0,7,43,0,0;"), 0, NONE, NONE);
    }

    private static void planHungry() {
        String food = CELL + "f0,0,7,240,0,0;f0,0,7,240,0,1;";
        planDue("two won't", check.laid(food + "d1;e1;e3;e2;"), 20, 0);
        planDue("nobody eats it: as good as none", check.laid(food + "d1;e1;e1;"), 20, NONE);
        planDue("one sort of two is enough", check.laid(food + "d3;d1;e2;e0;"), 0, 1);
        planDue("fewer go hungry", check.laid(food + "d1;d2;e1;e1;e2;"), 10, 1);
        planDue("each evening", check.laid(food + "e0;e15;e1;e2;"), 160, NONE, NONE, NONE, NONE);
        planDue("nobody is there", check.laid(food + "d1;d2;"), 0, NONE);
        // Eaten by nobody, but not thrown: 7 by 18 HOURS, 99 by 42.
        planDue("eaten lest it is thrown", check.laid(CELL + "f0,0,99,20,0,0;d1;e1;"), 20, 0, NONE);
    }

    private static void planTakesOldest() {
        // Only one evening is left to eat one of sort 0: both are off on the next one.
        String two = "d1;";
        planDue("of several the lowest", check.laid(CELL + "f0,0,3,20,0,0;f0,0,50,20,0,0;" + two), 50, 0, NONE);
        planDue("the older one", check.laid(CELL + "f0,0,3,21,0,0;f0,0,50,20,0,0;" + two), 3, 0, NONE);
        planDue("the older one", check.laid(CELL + "f0,0,3,20,0,0;f0,0,50,21,0,0;" + two), 50, 0, NONE);
        planDue("by its limit: 100 of 2000 is 50 of 1000",
                check.laid(CELL + "f1,0,3,40,0,0;f0,0,50,20,0,0;" + two), 50, 0, NONE);
        planDue("by its limit: 50 of 1000 is 100 of 2000",
                check.laid(CELL + "f0,0,50,20,0,0;f1,0,3,40,0,0;" + two), 3, 0, NONE);
        // 900 of 950 is less than 1800 of 1850: tenths alone would not tell.
        planDue("by its whole limit", check.laid(CELL + "f0,0,50,19,0,0;f1,0,3,37,0,0;" + two), 50, 0, NONE);
        planDue("not an off one", check.laid(CELL + "f0,0,3,18,0,0;f0,0,50,20,0,0;" + two), 3, 0, NONE);
        // 18 of 50 is less than 900 of 2050; by the second evening that one is off, the frozen one is not.
        planDue("the frozen one is younger",
                check.laid(CELL + "f3,0,50,1,0,0;f0,0,3,41,0,0;" + two), 0, 0, 0, NONE);
        // Of those that are left the oldest, each on the last evening that it is good: 18, 42, 66.
        planDue("evening by evening",
                check.laid(CELL + "f0,0,9,99,0,0;f0,0,9,80,0,0;f0,0,9,66,0,0;f0,0,9,42,0,0;" + two), 0, 0, 0, 0, NONE);
        planDue("evening by evening",
                check.laid(CELL + "f0,0,9,42,0,0;f0,0,9,66,0,0;f0,0,9,80,0,0;f0,0,9,99,0,0;" + two), 0, 0, 0, 0, NONE);
        OffFirst x = check.laid(CELL + "f0,0,3,20,0,0;f0,0,50,20,0,0;" + two);
        x.eat(0);
        planDue("not an eaten one", x, 0, 0, NONE);
        check.due("one is there", x.lost(500), 50);
    }

    private static void planOfSorts() {
        String foods = CELL + "f0,0,5,20,0,0;f0,0,7,20,0,1;f0,0,9,20,0,3;";
        planDue("both sorts are eaten", check.laid(foods + "d3;"), 9, 0, NONE);
        planDue("all sorts", check.laid(foods + "d11;"), 0, 0, NONE);
        planDue("a sort is not there", check.laid(foods + "d15;d2;"), 14, 1, NONE);
        planDue("the highest sort", check.laid(foods + "d8;"), 12, 0, NONE);
        planDue("a sort is off", check.laid(CELL + "f0,0,5,18,0,0;f0,0,7,20,0,1;d3;d2;"), 5, 1, NONE);
        OffFirst x = check.laid(foods + "d3;d8;");
        x.throwOut(0);
        planDue("a sort is thrown out", x, 7, 1, NONE);
        planDue("not twice", check.laid(CELL + "f0,0,5,240,0,0;f0,0,5,240,0,1;d3;d1;e0;"), 10, NONE, 0);
        planDue("one of each evening", check.laid(CELL + "f0,0,5,240,0,0;f0,0,5,240,0,0;f0,0,5,240,0,1;d3;d1;e0;"),
                0, 0, 1);
    }

    private static void planBad() {
        OffFirst x = check.laid(CELL + "f0,0,7,240,0,0;d1;e0;");
        check.due("plan 0", x.plan(0, -1), BAD);
        check.due("plan -1", x.plan(-1, -1), BAD);
        check.due("plan 5", x.plan(5, 0), BAD);
        for (int e = 1; e <= 4; e++) {
            check.due("plan -2 of " + e, x.plan(e, -2), BAD);
            check.due("plan " + e + " of " + e, x.plan(e, e), BAD);
        }
        check.due("plan 3 of 4", x.plan(4, 3), 0);
    }

    private static void freezeDue(String what, OffFirst x, int n, int food, int lost) {
        check.due(what + ": food", x.freeze(n, 0), food);
        check.due(what + ": lost", x.freeze(n, 1), lost);
    }

    private static void freeze() {
        OffFirst x = check.laid(CELL + "f0,0,5,10,0,0;f0,0,9,10,0,0;f1,0,9,20,0,0;f0,0,50,11,0,0;f3,0,80,1,0,0;");
        freezeDue("the dearest, of several the lowest", x, 10, 1, 14);
        freezeDue("one hour more", x, 11, 3, 23);
        freezeDue("none is off yet", x, 9, NONE, NONE);
        freezeDue("a frozen one is lost all the same", x, 50, 3, 103);
        // LIMITS 500, 500, 1000, 550 by 1 an HOUR.
        freezeDue("499 hours", x, 499, 3, 103);
        freezeDue("500 hours", x, 500, 3, 103);
        check.due("not frozen in fact", x.food(3, 0), 0);
        check.due("freeze 501", x.freeze(501, 0), BAD);
        check.due("freeze -1", x.freeze(-1, 0), BAD);
        check.due("freeze, what 2", x.freeze(10, 2), BAD);
        check.due("freeze, what -1", x.freeze(10, -1), BAD);
        x.throwOut(1);
        freezeDue("not one that is thrown out", x, 10, 2, 5);
        x.make(2, 3);
        freezeDue("not a frozen one", x, 10, 0, 0);
        x.hours(10);
        freezeDue("off ones are too late", x, 0, NONE, NONE);
        freezeDue("off ones are too late", x, 1, 3, 5);
    }

    private static void freezeCooked() {
        // COOKED 500 of 5000; FROZEN 500 of 200: off at once.
        OffFirst x = check.laid(CELL + "f2,0,9,4,0,0;f0,0,3,20,0,0;");
        x.hours(10);
        freezeDue("never the cooked one", x, 95, 1, 9);
        freezeDue("the plain one", x, 10, 1, 0);
        OffFirst young = check.laid(CELL + "f2,0,9,4,0,0;f0,0,3,240,0,0;");
        freezeDue("a cooked one, before 4 hours of warmth", young, 100, 0, 0);
        freezeDue("a cooked one: 200 hours", young, 199, 0, 0);
        freezeDue("a cooked one off, frozen or not", young, 200, NONE, NONE);
        freezeDue("then the plain one", young, 240, 1, 9);
    }

    private static void freezeNone() {
        OffFirst worthless = check.laid(CELL + "f0,0,0,10,0,0;");
        freezeDue("it would not be less", worthless, 100, NONE, NONE);
        OffFirst x = check.laid(CELL + "f0,0,9,10,0,0;");
        x.eat(0);
        freezeDue("none is there", x, 100, NONE, NONE);
        check.due("BAD ahead of NONE", x.freeze(100, 2), BAD);
    }

    private static void lieDue(String what, OffFirst x, int n, int lost, int... cells) {
        check.due(what + ": lost", x.lie(cells.length, n, -1), lost);
        for (int i = 0; i < cells.length; i++) {
            check.due(what + ": cell " + i, x.lie(cells.length, n, i), cells[i]);
        }
    }

    private static void lie() {
        OffFirst x = check.laid("c90,0,9;c0,0,1;c40,0,1;f0,0,5,10,0,0;f0,0,9,10,0,0;f0,0,2,10,0,0;f1,0,3,10,0,0;");
        // 500: off behind 5, 50 and 10 HOURS, the opened one behind 3, 25 and 5.
        lieDue("at 4 hours the opened one alone", x, 4, 3, 0);
        lieDue("four of four", x, 4, 0, 0, 0, 0, 1);
        lieDue("the first alone", x, 5, 14, 1);
        lieDue("two", x, 5, 5, 1, 2);
        lieDue("three", x, 5, 5, 1, 2, 0);
        lieDue("four", x, 5, 5, 1, 2, 0, 0);
        lieDue("ten hours: one of two", x, 10, 10, 0, 1);
        lieDue("50 hours: none is good", x, 50, 19, 0, 0, 0, 0);
        lieDue("0 hours", x, 0, 0, 0, 0, 0, 0);
        check.due("nothing is moved", x.food(0, 1), 0);
        x.hours(5);
        lieDue("off now", x, 0, 19, 0, 0);
        check.due("lie 0", x.lie(0, 5, -1), BAD);
        check.due("lie 5", x.lie(5, 5, -1), BAD);
        check.due("lie for 501", x.lie(1, 501, -1), BAD);
        check.due("lie for 500", x.lie(1, 500, -1), 19);
        check.due("lie for -1", x.lie(1, -1, -1), BAD);
        check.due("lie -2", x.lie(1, 5, -2), BAD);
        check.due("lie 1 of 1", x.lie(1, 5, 1), BAD);
        check.due("lie 4 of 4", x.lie(4, 5, 4), BAD);
        x.eat(0);
        check.due("fewer than 4", x.lie(4, 5, -1), NONE);
        check.due("fewer than 4", x.lie(4, 5, 3), NONE);
        check.due("three still", x.lie(3, 5, -1), 14);
        check.due("BAD ahead of NONE", x.lie(4, 5, 4), BAD);
        x.eat(1);
        x.throwOut(2);
        x.throwOut(3);
        check.due("none is there", x.lie(1, 5, -1), NONE);
    }

    private static void lieRoom() {
        // The cold one is taken by FOOD 2, which stays when two are laid.
        OffFirst x = check.laid("c90,0,2;c0,0,1;f0,0,5,10,0,0;f0,0,9,10,0,0;f0,1,2,10,0,0;");
        lieDue("no room", x, 5, 14, 0, 0);
        lieDue("all three are laid", x, 5, 7, 0, 1, 0);
        x.eat(2);
        lieDue("an eaten one takes no room", x, 5, 5, 0, 1);
        OffFirst full = check.laid("c90,0,1;c0,0,1;f0,0,9,10,0,0;f0,1,5,10,0,0;");
        lieDue("full ones are changed round", full, 5, 5, 1, 0);
        lieDue("one alone can not", full, 5, 9, 0);
        full.throwOut(1);
        lieDue("now it can", full, 5, 0, 1);
        OffFirst second = check.laid("c90,0,9;c0,0,1;f0,0,9,10,0,0;f0,0,5,10,0,0;f0,0,7,10,0,0;");
        second.eat(0);
        lieDue("the first that are there", second, 5, 5, 0, 1);
    }

    private static void lieOfSeveral() {
        lieDue("by the cell of the lowest food", check.laid("c0,0,1;c0,0,9;c0,0,9;f0,2,9,10,0,0;f0,2,9,10,0,0;"),
                5, 0, 0, 1);
        // One of two can be cold: the one that leaves the lowest in the lower cell.
        lieDue("then the next", check.laid("c90,0,9;c0,0,1;f0,0,9,10,0,0;f0,0,9,10,0,0;"), 5, 9, 0, 1);
        lieDue("six cells", check.laid("c90,0,1;c90,0,1;c90,0,1;c90,0,1;c90,0,1;c0,0,1;"
                + "f0,0,9,10,0,0;f0,1,8,10,0,0;f0,2,7,10,0,0;f0,3,6,10,0,0;f0,4,5,10,0,0;"), 5, 26, 5, 0, 1, 2);
        lieDue("the last evening's door", check.laid("c40,60,9;c60,0,9;o4;f0,0,9,7,0,0;"), 5, 0, 0);
        lieDue("its limit at the door", check.laid("c40,60,9;c59,0,9;o4;f0,0,9,6,0,0;"), 5, 9, 0);
        lieDue("behind the door's hour", check.laid("c40,60,9;c59,0,9;o5;f0,1,9,6,0,0;"), 5, 0, 0);
    }

    private static void expectDue(String text, int... wants) {
        OffFirst x = check.laid(CELL + "f0,0,9,10,0,0;" + text);
        for (int q = 0; q < wants.length; q++) {
            check.due("expect " + q + " of " + text, x.expect(q), wants[q]);
        }
    }

    private static void expect() {
        // 0, 10, 15, 25, 30, 40, 45, 55, 60, 70 for the packs.
        expectDue("g2,1;b10,15;", 30, 25, 15, 25, 30, 40, 45, 55, 60, 70);
        expectDue("g2,1;g5,3;b10,15;", 255, 235, 195, 190, 165, 160, 180, 220, 240, 280);
        // Two for 20 are no bargain at 7.
        expectDue("g3,2;b7,20;", 90, 74, 58, 42, 56, 70, 84, 98, 112, 126);
        expectDue("g0,99;", 0, 990, 1980);
        expectDue("g9,99;b99,198;", 13365, 21681);
        OffFirst x = check.laid(CELL + "f0,0,9,10,0,0;g9,99;g9,99;g9,99;g9,99;g9,99;g9,99;b99,198;");
        check.due("the dearest", x.expect(8), 6 * 99 * (792 + 15));
        check.due("expect 9", x.expect(9), 6 * 99 * 891);
        check.due("expect 10", x.expect(10), BAD);
        check.due("expect -1", x.expect(-1), BAD);
        OffFirst none = check.laid(CELL + "f0,0,9,10,0,0;b1,1;");
        check.due("no guests told", none.expect(0), NONE);
        check.due("BAD ahead of NONE", none.expect(10), BAD);
    }

    private static void buyDue(String text, int want) {
        check.due("buy of " + text, check.laid(CELL + "f0,0,9,10,0,0;" + text).buy(), want);
    }

    private static void buy() {
        buyDue("g2,1;b10,15;", 2);
        buyDue("g2,1;g5,3;b10,15;", 5);
        buyDue("g3,2;b7,20;", 3);
        buyDue("g1,1;b15,99;", 0);
        buyDue("g1,1;b14,99;", 1);
        buyDue("g9,1;b99,198;", 0);
        buyDue("g9,1;b1,1;", 9);
        buyDue("g0,7;", 0);
        buyDue("g0,1;g9,1;b8,16;", 0);
        buyDue("g0,1;g9,1;b7,14;", 9);
        buyDue("g0,2;g9,1;b7,14;", 0);
        buyDue("b7,14;", NONE);
        // Two for 16: an odd one more is never worth its 15.
        buyDue("g3,1;b15,16;", 2);
        buyDue("g4,1;b15,16;", 4);
    }
}
