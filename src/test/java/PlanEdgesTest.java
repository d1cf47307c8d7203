/** Promises 15 to 19 at their edges: PLAN, FREEZE, LIE, EXPECT, BUY. A test of its own for each sentence. */
public final class PlanEdgesTest {
    private static final Check check = new Check("PlanEdgesTest");
    private static final int BAD = OffFirst.BAD, NONE = OffFirst.NONE;
    /** A PLAIN FOOD ages by 50 an HOUR in it: it is OFF behind as many HOURS as its LIFE. */
    private static final String CELL = "c40,0,10;";
    private static final int[] NO_NUMBERS = {Integer.MIN_VALUE, -100, -2, 501, 1000, Integer.MAX_VALUE};

    public static void main(String[] args) {
        planOfOneToFourEvenings();
        planOfTheIthEvening();
        eveningsAreEighteenModuloADay();
        aDishIsEatenAsTheEveningBegins();
        oneDishIsEatenOrNone();
        ofEachSortAFoodIsEaten();
        thatFoodIsThere();
        thatFoodIsNotOff();
        thatFoodIsTheOldestByItsLimit();
        thatFoodIsTheLowestOfSeveral();
        aDishNeedsEachOfItsSorts();
        costIsOfThoseThatAreOffOnTheLastEvening();
        costIsOfThoseThatAreThere();
        tenForEachEaterWhoGetsNothing();
        ofSeveralRowsTheFirst();
        theLastDishAndTheLastEvening();
        planChangesNothing();
        freezeForNoughtToFiveHundredHours();
        freezeTellsTheFoodAndWhatIsLost();
        freezeIsOfThoseThatAreThere();
        freezeIsOfThoseThatAreNotFrozen();
        freezeOfSeveralTheLowest();
        freezeIsNoneIfItIsNotLess();
        freezeMakesItFrozenNow();
        lieOfOneToFourFoods();
        lieForNoughtToFiveHundredHours();
        lieOfTheIthFood();
        lieIsNoneIfThereAreFewer();
        lieIsOfTheFirstThatAreThere();
        lieLeavesTheOthers();
        lieKeepsToTheRoom();
        lieOfSeveralTheFirst();
        lieIsBadAheadOfNone();
        expectOfNoughtToNinePacks();
        expectTakesWhatIsLess();
        expectOfGuestsWithoutAPack();
        expectByWeights();
        expectIsNoneWithoutGuests();
        buyTheFewestOfSeveral();
        buyOfLeastAndMost();
        buyIsNoneWithoutGuests();
        check.end();
    }

    private static OffFirst laid(String text) {
        return check.laid(CELL + text);
    }

    private static void planDue(OffFirst x, int cost, int... dishes) {
        int e = dishes.length;
        check.due("cost of " + e, x.plan(e, -1), cost);
        for (int i = 0; i < e; i++) {
            check.due("DISH " + i + " of " + e, x.plan(e, i), dishes[i]);
        }
    }

    // ---- plan

    private static void planOfOneToFourEvenings() {
        check.sentence("PLAN of e EVENINGS (1 to 4)");
        OffFirst x = laid("f0,0,9,240,0,0;e0;");
        for (int e = 1; e <= 4; e++) {
            check.due("plan of " + e, x.plan(e, -1), 10 * e);
        }
        for (int e : new int[] {0, -1, 5, 6, Integer.MIN_VALUE, Integer.MAX_VALUE}) {
            for (int i = -1; i <= 4; i++) {
                check.due("plan " + e + ", " + i, x.plan(e, i), BAD);
            }
        }
    }

    private static void planOfTheIthEvening() {
        check.sentence("plan: COST (i = -1), the DISH of the i-th");
        OffFirst x = laid("f0,0,9,240,0,0;".repeat(4) + "d1;e0;");
        for (int e = 1; e <= 4; e++) {
            check.due("cost", x.plan(e, -1), 0);
            for (int i = 0; i < e; i++) {
                check.due("plan " + e + ", " + i, x.plan(e, i), 0);
            }
            for (int i : new int[] {e, e + 1, 4, -2, -4, Integer.MIN_VALUE, Integer.MAX_VALUE}) {
                check.due("plan " + e + ", " + i, x.plan(e, i), BAD);
            }
        }
    }

    private static void eveningsAreEighteenModuloADay() {
        check.sentence("the next e HOURS that are 18 modulo 24 (from the one that is now on)");
        for (int hour = 0; hour <= 48; hour++) {
            int first = hour <= 18 ? 18 : hour <= 42 ? 42 : 66;
            for (int e = 1; e <= 4; e++) {
                int last = first + 24 * (e - 1);
                OffFirst x = laid("f0,0,5," + last + ",0,0;f0,0,9," + (last + 1) + ",0,0;");
                Check.goBy(x, hour);
                check.due(e + " EVENINGS from HOUR " + hour, x.plan(e, -1), 5);
            }
        }
    }

    private static void aDishIsEatenAsTheEveningBegins() {
        check.sentence("as each begins one DISH is eaten");
        planDue(laid("f0,0,7,18,0,0;d1;e0;"), 17, NONE);
        planDue(laid("f0,0,7,19,0,0;d1;e0;"), 0, 0);
        planDue(laid("f0,0,7,42,0,0;d1;e0;"), 10, 0, NONE);
        OffFirst now = laid("f0,0,7,19,0,0;d1;e0;");
        now.hours(18);
        planDue(now, 0, 0);
        // The HOUR ahead of it counts, its own does not: 900 and 50 of 950.
        planDue(check.laid("c40,50,9;o17;f0,0,7,19,0,0;d1;e0;"), 17, NONE);
        planDue(check.laid("c40,50,9;o18;f0,0,7,19,0,0;d1;e0;"), 0, 0);
        planDue(check.laid("c40,50,9;o18;f0,0,7,43,0,0;"), 7, NONE, NONE);
        OffFirst over = laid("f0,0,7,43,0,0;d1;e0;");
        over.hours(19);
        planDue(over, 0, 0);
    }

    private static void oneDishIsEatenOrNone() {
        check.sentence("one DISH is eaten, or none");
        planDue(laid("f0,0,7,20,0,0;f0,0,9,20,0,1;f0,0,8,20,0,2;d1;d2;d4;"), 15, 1, NONE);
        planDue(laid("f0,0,7,44,0,0;f0,0,9,44,0,1;f0,0,8,44,0,2;d1;d2;d4;"), 7, 1, 2, NONE);
        planDue(laid("f0,0,7,20,0,0;"), 7, NONE, NONE);
    }

    private static void ofEachSortAFoodIsEaten() {
        check.sentence("of each SORT of it that FOOD");
        String foods = "f0,0,1,20,0,0;f0,0,2,20,0,1;f0,0,4,20,0,2;f0,0,8,20,0,3;f0,0,16,20,0,3;";
        for (int sorts = 1; sorts <= 15; sorts++) {
            planDue(laid(foods + "d" + sorts + ";"), 31 - sorts, 0, NONE);
        }
    }

    private static void thatFoodIsThere() {
        check.sentence("that FOOD that is THERE");
        OffFirst x = laid("f0,0,3,19,0,0;f0,0,5,19,0,0;f0,0,9,20,0,0;d1;");
        x.eat(0);
        x.throwOut(1);
        planDue(x, 0, 0, NONE);
        OffFirst twice = laid("f0,0,9,240,0,0;d1;e0;");
        planDue(twice, 10, NONE, 0);
    }

    private static void thatFoodIsNotOff() {
        check.sentence("that FOOD .. not OFF");
        planDue(laid("f0,0,3,18,0,0;f0,0,50,20,0,0;d1;"), 3, 0, NONE);
        planDue(laid("f0,0,3,19,0,0;f0,0,50,20,0,0;d1;"), 50, 0, NONE);
    }

    private static void thatFoodIsTheOldestByItsLimit() {
        check.sentence("whose AGE by LIMIT is greatest");
        planDue(laid("f0,0,3,21,0,0;f0,0,50,20,0,0;d1;"), 3, 0, NONE);
        planDue(laid("f0,0,3,20,0,0;f0,0,50,21,0,0;d1;"), 50, 0, NONE);
        // 900 of 950 is less than 1800 of 1850, and more than 1800 of 1950.
        planDue(laid("f0,0,50,19,0,0;f1,0,3,37,0,0;d1;"), 50, 0, NONE);
        planDue(laid("f0,0,50,19,0,0;f1,0,3,39,0,0;d1;"), 3, 0, NONE);
        // 18 of 50 is less than 900 of 2050, and more than 900 of 2550.
        planDue(laid("f3,0,50,1,0,0;f0,0,3,41,0,0;d1;"), 0, 0, NONE);
        planDue(laid("f3,0,50,1,0,0;f0,0,3,51,0,0;f0,0,0,19,0,1;d3;"), 3, 0, NONE, NONE);
        // AGE alone would take the opened one: 1800 of 12000, 900 of 1000.
        planDue(laid("f1,0,3,240,0,0;f0,0,50,20,0,0;d1;"), 0, 0, NONE);
    }

    private static void thatFoodIsTheLowestOfSeveral() {
        check.sentence("AGE by LIMIT .. (of several the lowest)");
        planDue(laid("f0,0,3,20,0,0;f0,0,50,20,0,0;d1;"), 50, 0, NONE);
        planDue(laid("f0,0,50,20,0,0;f0,0,3,20,0,0;d1;"), 3, 0, NONE);
        planDue(laid("f1,0,3,40,0,0;f0,0,50,20,0,0;d1;"), 50, 0, NONE);
        planDue(laid("f0,0,50,20,0,0;f1,0,3,40,0,0;d1;"), 3, 0, NONE);
        planDue(laid("f0,0,1,20,0,0;f0,0,2,20,0,0;f0,0,4,20,0,0;d1;"), 6, 0, NONE);
        planDue(laid("f0,0,1,20,0,0;".repeat(9) + "f0,0,50,21,0,0;d1;"), 58, 0, NONE);
        planDue(laid("f0,0,1,21,0,0;".repeat(9) + "f0,0,50,20,0,0;d1;"), 9, 0, NONE);
    }

    private static void aDishNeedsEachOfItsSorts() {
        check.sentence("a DISH of which a SORT is not there can not be");
        planDue(laid("f0,0,9,240,0,0;d2;d3;e0;"), 10, NONE);
        planDue(laid("f0,0,9,240,0,0;f0,0,0,18,0,1;d2;d3;e0;"), 10, NONE);
        planDue(laid("f0,0,9,240,0,0;f0,0,0,19,0,1;d4;d3;e0;"), 0, 1);
        OffFirst eaten = laid("f0,0,9,240,0,0;f0,0,0,240,0,1;d2;d3;e0;");
        eaten.eat(1);
        planDue(eaten, 10, NONE);
        OffFirst thrown = laid("f0,0,9,240,0,0;f0,0,0,240,0,1;d2;d3;e0;");
        thrown.throwOut(1);
        planDue(thrown, 10, NONE);
        planDue(laid("f0,0,9,240,0,0;f0,0,9,240,0,1;f0,0,9,240,0,2;d15;e0;"), 10, NONE);
        planDue(laid("f0,0,9,240,0,0;f0,0,9,240,0,1;f0,0,9,240,0,2;f0,0,9,240,0,3;d15;e0;"), 0, 0);
    }

    private static void costIsOfThoseThatAreOffOnTheLastEvening() {
        check.sentence("COST: the coin of all that are OFF as the last EVENING begins");
        for (int e = 1; e <= 4; e++) {
            int last = 18 + 24 * (e - 1);
            String text = "f0,0,1,1,0,0;f0,0,2," + last + ",0,0;f0,0,4," + (last + 1) + ",0,0;f0,0,0,1,0,0;";
            check.due(e + " EVENINGS", laid(text).plan(e, -1), 3);
        }
        planDue(laid("f0,0,7,42,0,0;"), 0, NONE);
        planDue(laid("f0,0,7,42,0,0;"), 7, NONE, NONE);
        planDue(laid("f0,0,7,43,0,0;"), 0, NONE, NONE);
    }

    private static void costIsOfThoseThatAreThere() {
        check.sentence("COST: the coin of all that are THERE");
        OffFirst x = laid("f0,0,1,1,0,0;f0,0,2,1,0,0;f0,0,4,1,0,0;");
        x.hours(1);
        planDue(x, 7, NONE);
        x.eat(0);
        planDue(x, 6, NONE);
        x.throwOut(2);
        planDue(x, 2, NONE);
        x.eat(1);
        planDue(x, 0, NONE);
        planDue(laid("f0,0,9,20,0,0;f0,0,8,20,0,0;d1;"), 8, 0, NONE);
    }

    private static void tenForEachEaterWhoGetsNothing() {
        check.sentence("for each EVENING 10 for each EATER who gets nothing");
        String foods = "f0,0,0,240,0,0;".repeat(4);
        for (int eaters = 0; eaters <= 4; eaters++) {
            for (int e = 1; e <= 4; e++) {
                check.due("no DISH", laid(foods + "e0;".repeat(eaters)).plan(e, -1), 10 * eaters * e);
                check.due("each eats it", laid(foods + "d1;" + "e14;".repeat(eaters)).plan(e, -1), 0);
                check.due("none eats it", laid(foods + "d1;" + "e1;".repeat(eaters)).plan(e, -1), 10 * eaters * e);
            }
        }
        planDue(laid("f0,0,0,240,0,0;f0,0,0,240,0,1;d3;e1;e2;e3;e12;"), 30, 0);
        planDue(laid("f0,0,0,240,0,0;f0,0,0,240,0,1;d3;d1;e2;e0;"), 0, 1);
        planDue(laid("f0,0,0,240,0,0;f0,0,0,240,0,1;d1;d2;e1;e1;e2;"), 10, 1);
    }

    private static void ofSeveralRowsTheFirst() {
        check.sentence("of several the first (none, then DISH 0, 1, ..; the first EVENING first)");
        String many = "f0,0,0,240,0,0;".repeat(4);
        planDue(laid(many + "d1;d1;"), 0, NONE, NONE, NONE, NONE);
        planDue(laid(many + "d1;d1;e1;"), 40, NONE, NONE, NONE, NONE);
        planDue(laid(many + "d1;d1;e0;"), 0, 0, 0, 0, 0);
        planDue(laid(many + "d2;d1;d1;d1;d1;e0;"), 0, 1, 1, 1, 1);
        planDue(laid("f0,0,0,240,0,0;d1;e0;"), 30, NONE, NONE, NONE, 0);
        planDue(laid("f0,0,0,240,0,0;f0,0,0,240,0,1;d1;d2;e0;"), 0, 0, 1);
        planDue(laid("f0,0,0,240,0,0;f0,0,0,240,0,1;d1;d2;e0;"), 10, NONE, 0, 1);
        planDue(laid("f0,0,0,240,0,0;f0,0,0,240,0,1;d2;d1;e0;"), 10, NONE, 0, 1);
        // OFF at 50 HOURS: saved on the first or the second EVENING of three.
        planDue(laid("f0,0,7,50,0,0;d1;"), 0, NONE, 0, NONE);
    }

    private static void theLastDishAndTheLastEvening() {
        check.sentence("the DISH of the last EVENING; DISH 4");
        planDue(laid("f0,0,0,240,0,3;".repeat(4) + "d1;d2;d4;d7;d8;e0;"), 0, 4, 4, 4, 4);
    }

    private static void planChangesNothing() {
        check.sentence("PLAN: nothing is eaten, no HOUR goes by");
        OffFirst x = laid("f0,0,7,19,0,0;d1;e0;");
        planDue(x, 0, 0);
        check.due("THERE", x.count(7), 1);
        check.due("HOUR", x.count(6), 0);
        check.due("AGE", x.food(0, 2), 0);
        planDue(x, 0, 0);
    }

    // ---- freeze

    private static void freezeDue(OffFirst x, int n, int food, int lost) {
        check.due("freeze " + n + ", 0", x.freeze(n, 0), food);
        check.due("freeze " + n + ", 1", x.freeze(n, 1), lost);
    }

    private static void freezeForNoughtToFiveHundredHours() {
        check.sentence("FREEZE for n HOURS (0 to 500)");
        // 100 in the first HOUR, 50 in the second: of 150.
        OffFirst door = check.laid("c40,50,9;o0;f0,0,9,3,0,0;");
        freezeDue(door, 1, NONE, NONE);
        freezeDue(door, 2, 0, 0);
        door.hours(1);
        freezeDue(door, 1, 0, 0);
        OffFirst x = laid("f0,0,9,1,0,0;f0,0,5,11,0,0;");
        freezeDue(x, 0, NONE, NONE);
        freezeDue(x, 1, 0, 0);
        freezeDue(x, 500, 1, 9);
        for (int n : NO_NUMBERS) {
            freezeDue(x, n, BAD, BAD);
        }
        freezeDue(x, -1, BAD, BAD);
    }

    private static void freezeTellsTheFoodAndWhatIsLost() {
        check.sentence("freeze: the FOOD (what = 0), LOST (1)");
        OffFirst x = laid("f0,0,9,10,0,0;f0,0,50,10,0,0;f0,0,5,10,0,0;");
        freezeDue(x, 10, 1, 14);
        for (int what : new int[] {-1, 2, 3, Integer.MIN_VALUE, Integer.MAX_VALUE}) {
            check.due("freeze 10, " + what, x.freeze(10, what), BAD);
            check.due("freeze 0, " + what + ": BAD ahead of NONE", x.freeze(0, what), BAD);
        }
    }

    private static void freezeIsOfThoseThatAreThere() {
        check.sentence("FREEZE: the FOOD that is THERE; none (none)");
        OffFirst x = laid("f0,0,50,10,0,0;f0,0,9,10,0,0;f0,0,5,10,0,0;");
        freezeDue(x, 10, 0, 14);
        x.eat(0);
        freezeDue(x, 10, 1, 5);
        x.throwOut(1);
        freezeDue(x, 10, 2, 0);
        x.eat(2);
        freezeDue(x, 10, NONE, NONE);
        freezeDue(x, 500, NONE, NONE);
    }

    private static void freezeIsOfThoseThatAreNotFrozen() {
        check.sentence("FREEZE: the FOOD that is not FROZEN; none (none)");
        OffFirst x = laid("f3,0,50,1,0,0;f0,0,9,10,0,0;");
        freezeDue(x, 50, 1, 50);
        x.make(1, 3);
        freezeDue(x, 50, NONE, NONE);
        freezeDue(laid("f3,0,50,1,0,0;f1,0,9,20,0,0;"), 10, 1, 0);
        freezeDue(laid("f3,0,50,1,0,0;f2,0,9,4,0,0;"), 100, 1, 50);
        x.make(0, 0);
        freezeDue(x, 1, 0, 0);
    }

    private static void freezeOfSeveralTheLowest() {
        check.sentence("FREEZE: of several the lowest");
        freezeDue(laid("f0,0,5,10,0,0;f0,0,9,10,0,0;f0,0,9,10,0,0;f1,0,9,20,0,0;"), 10, 1, 23);
        freezeDue(laid("f0,0,9,10,0,0;".repeat(10)), 10, 0, 81);
        freezeDue(laid("f0,0,8,10,0,0;".repeat(9) + "f0,0,9,10,0,0;"), 10, 9, 72);
    }

    private static void freezeIsNoneIfItIsNotLess() {
        check.sentence("FREEZE: none (it would not be less)");
        freezeDue(laid("f0,0,9,10,0,0;"), 9, NONE, NONE);
        freezeDue(laid("f0,0,9,10,0,0;"), 10, 0, 0);
        freezeDue(laid("f0,0,0,10,0,0;"), 10, NONE, NONE);
        freezeDue(laid("f0,0,1,10,0,0;"), 10, 0, 0);
        OffFirst off = laid("f0,0,9,10,0,0;");
        off.hours(10);
        freezeDue(off, 0, NONE, NONE);
        freezeDue(off, 500, NONE, NONE);
        // LIMIT 500: frozen now it is OFF behind 500 HOURS, too.
        freezeDue(laid("f0,0,9,10,0,0;"), 499, 0, 0);
        freezeDue(laid("f0,0,9,10,0,0;"), 500, NONE, NONE);
    }

    private static void freezeMakesItFrozenNow() {
        check.sentence("FREEZE: frozen now: of the LIMIT and the ageing of a FROZEN one");
        // COOKED 450 of 5000 now; FROZEN 450 of 200 it would be OFF at once.
        OffFirst cooked = laid("f2,0,9,4,0,0;f0,0,3,240,0,0;");
        cooked.hours(9);
        freezeDue(cooked, 90, NONE, NONE);
        freezeDue(cooked, 91, NONE, NONE);
        freezeDue(cooked, 240, 1, 9);
        OffFirst young = laid("f2,0,9,4,0,0;");
        freezeDue(young, 99, NONE, NONE);
        freezeDue(young, 100, 0, 0);
        freezeDue(young, 199, 0, 0);
        freezeDue(young, 200, NONE, NONE);
        check.due("it is not frozen in fact", young.food(0, 0), 2);
    }

    // ---- lie

    private static void lieDue(OffFirst x, int n, int lost, int... cells) {
        int k = cells.length;
        check.due("lie " + k + " for " + n, x.lie(k, n, -1), lost);
        for (int i = 0; i < k; i++) {
            check.due("CELL " + i + " of " + k + " for " + n, x.lie(k, n, i), cells[i]);
        }
    }

    /** A warm CELL (100 an HOUR) and a cold one (10 an HOUR) with room for one; LIMIT 500. */
    private static OffFirst warmAndCold(String foods) {
        return check.laid("c90,0,10;c0,0,1;" + foods);
    }

    private static void lieOfOneToFourFoods() {
        check.sentence("LIE of the first k (1 to 4) FOODS");
        OffFirst x = warmAndCold("f0,0,1,10,0,0;f0,0,2,10,0,0;f0,0,4,10,0,0;f0,0,8,10,0,0;f0,0,16,10,0,0;");
        lieDue(x, 5, 30, 1);
        lieDue(x, 5, 29, 0, 1);
        lieDue(x, 5, 27, 0, 0, 1);
        lieDue(x, 5, 23, 0, 0, 0, 1);
        for (int k : new int[] {0, -1, 5, 6, Integer.MIN_VALUE, Integer.MAX_VALUE}) {
            for (int i = -1; i <= 4; i++) {
                check.due("lie " + k + ", " + i, x.lie(k, 5, i), BAD);
            }
        }
    }

    private static void lieForNoughtToFiveHundredHours() {
        check.sentence("LIE for n HOURS (0 to 500)");
        // Of 200: 100 an HOUR in CELL 0; 50, 50 and 101 in CELL 1.
        OffFirst door = check.laid("c90,0,10;c40,51,1;o2;f0,0,9,4,0,0;");
        lieDue(door, 1, 0, 0);
        lieDue(door, 2, 0, 1);
        lieDue(door, 3, 9, 0);
        OffFirst x = check.laid("c90,0,10;c0,0,1;f0,0,1,100,0,0;f0,0,2,101,0,0;f0,0,4,101,0,0;");
        lieDue(x, 0, 0, 0, 0);
        lieDue(x, 49, 0, 0, 0);
        lieDue(x, 50, 0, 1, 0);
        lieDue(x, 500, 5, 0, 1);
        lieDue(x, 500, 7, 0);
        for (int n : NO_NUMBERS) {
            lieDue(x, n, BAD, BAD, BAD);
        }
        lieDue(x, -1, BAD, BAD, BAD);
    }

    private static void lieOfTheIthFood() {
        check.sentence("lie: LOST (i = -1), the CELL of the i-th");
        OffFirst x = warmAndCold("f0,0,1,10,0,0;".repeat(4));
        for (int k = 1; k <= 4; k++) {
            check.due("LOST", x.lie(k, 5, -1), 3);
            check.due("the last CELL", x.lie(k, 5, k - 1), 1);
            for (int i : new int[] {k, k + 1, 4, -2, Integer.MIN_VALUE, Integer.MAX_VALUE}) {
                check.due("lie " + k + ", " + i, x.lie(k, 5, i), BAD);
            }
        }
    }

    private static void lieIsNoneIfThereAreFewer() {
        check.sentence("LIE: none (there are fewer than k)");
        for (int there = 0; there <= 5; there++) {
            OffFirst x = warmAndCold("f0,0,1,10,0,0;".repeat(5));
            for (int i = there; i < 5; i++) {
                check.due("one goes", i % 2 == 0 ? x.eat(i) : x.throwOut(i), 0);
            }
            for (int k = 1; k <= 4; k++) {
                check.due("LOST by " + k + " of " + there, x.lie(k, 5, -1), k > there ? NONE : there - 1);
                check.due("CELL by " + k + " of " + there, x.lie(k, 5, k - 1), k > there ? NONE : 1);
            }
        }
    }

    private static void lieIsOfTheFirstThatAreThere() {
        check.sentence("LIE of the first k FOODS that are THERE");
        OffFirst x = warmAndCold("f0,0,1,10,0,0;f0,0,2,10,0,0;f0,0,4,10,0,0;f0,0,8,10,0,0;");
        x.eat(0);
        lieDue(x, 5, 12, 1);
        lieDue(x, 5, 10, 0, 1);
        x.throwOut(2);
        lieDue(x, 5, 8, 1);
        lieDue(x, 5, 2, 0, 1);
    }

    private static void lieLeavesTheOthers() {
        check.sentence("LIE: (all the others stay)");
        OffFirst x = check.laid("c90,0,10;c0,0,1;f0,0,9,10,0,0;f0,1,1,10,0,0;f0,0,5,10,0,0;");
        lieDue(x, 5, 14, 0);
        lieDue(x, 5, 6, 1, 0);
        OffFirst lost = check.laid("c0,0,10;c90,0,10;f0,0,9,10,0,0;f0,1,7,10,0,0;");
        lieDue(lost, 5, 7, 0);
        lieDue(lost, 5, 0, 0, 0);
        check.due("nothing is moved", lost.food(1, 1), 1);
    }

    private static void lieKeepsToTheRoom() {
        check.sentence("LIE: no more than there is room for");
        for (int room = 1; room <= 4; room++) {
            OffFirst x = check.laid("c90,0,10;c0,0," + room + ";" + "f0,0,1,10,0,0;".repeat(4));
            check.due("room for " + room, x.lie(4, 5, -1), 4 - room);
            check.due("the last one is in", x.lie(4, 5, 3), 1);
            check.due("the first one", x.lie(4, 5, 0), room == 4 ? 1 : 0);
        }
        OffFirst full = check.laid("c90,0,1;c0,0,1;f0,0,9,10,0,0;f0,1,5,10,0,0;");
        lieDue(full, 5, 9, 0);
        lieDue(full, 5, 5, 1, 0);
        full.eat(1);
        lieDue(full, 5, 0, 1);
        // A CELL that is full of those that are laid is free for them.
        OffFirst own = check.laid("c0,0,2;c90,0,1;f0,0,9,10,0,0;f0,0,9,10,0,0;");
        lieDue(own, 5, 0, 0, 0);
    }

    private static void lieOfSeveralTheFirst() {
        check.sentence("LIE: of several the first (by the CELL of the lowest FOOD, then the next)");
        lieDue(check.laid("c0,0,10;c0,0,10;f0,1,9,10,0,0;f0,1,9,10,0,0;"), 5, 0, 0, 0);
        lieDue(check.laid("c0,0,1;c0,0,1;c0,0,1;f0,2,9,10,0,0;f0,1,9,10,0,0;f0,0,9,10,0,0;"), 5, 0, 0, 1, 2);
        lieDue(warmAndCold("f0,0,9,10,0,0;f0,0,9,10,0,0;"), 5, 9, 0, 1);
        lieDue(check.laid("c90,0,9;c0,0,1;c0,0,1;f0,0,9,10,0,0;f0,0,9,10,0,0;f0,0,9,10,0,0;"), 5, 9, 0, 1, 2);
        lieDue(check.laid("c90,0,1;c90,0,1;c90,0,1;c90,0,1;c90,0,1;c0,0,1;f0,0,9,10,0,0;"), 5, 0, 5);
        lieDue(check.laid("c90,0,1;c90,0,1;c90,0,1;c90,0,1;c90,0,1;c0,0,1;f0,3,0,10,0,0;"), 5, 0, 0);
    }

    private static void lieIsBadAheadOfNone() {
        check.sentence("lie: of BAD and NONE the first");
        OffFirst x = warmAndCold("f0,0,1,10,0,0;");
        check.due("fewer than 2", x.lie(2, 5, -1), NONE);
        check.due("fewer than 2, no such i", x.lie(2, 5, 2), BAD);
        check.due("fewer than 2, no such i", x.lie(2, 5, -2), BAD);
        check.due("fewer than 2, no such n", x.lie(2, 501, -1), BAD);
        check.due("fewer than 2, no such n", x.lie(2, -1, 0), BAD);
        check.due("fewer than 5", x.lie(5, 5, -1), BAD);
    }

    // ---- expect, buy

    private static void expectDue(String told, int... costs) {
        OffFirst x = laid("f0,0,9,10,0,0;" + told);
        for (int q = 0; q < costs.length; q++) {
            check.due("expect " + q + " by " + told, x.expect(q), costs[q]);
        }
    }

    private static void expectOfNoughtToNinePacks() {
        check.sentence("expect: of q PACKS (0 to 9)");
        OffFirst x = laid("f0,0,9,10,0,0;g9,1;b1,2;");
        for (int q = 0; q <= 9; q++) {
            check.due("expect " + q, x.expect(q), q + 15 * (9 - q));
        }
        for (int q : new int[] {-1, 10, 11, Integer.MIN_VALUE, Integer.MAX_VALUE}) {
            check.due("expect " + q, x.expect(q), BAD);
        }
    }

    private static void expectTakesWhatIsLess() {
        check.sentence("q PACKS cost q X, or Y for each two and X for the odd one, what is less");
        expectDue("g0,1;b10,15;", 0, 10, 15, 25, 30, 40, 45, 55, 60, 70);
        expectDue("g0,1;b10,19;", 0, 10, 19, 29, 38, 48, 57, 67, 76, 86);
        expectDue("g0,1;b10,20;", 0, 10, 20, 30, 40, 50, 60, 70, 80, 90);
        expectDue("g0,1;b10,21;", 0, 10, 20, 30, 40, 50, 60, 70, 80, 90);
        expectDue("g0,1;b1,198;", 0, 1, 2, 3, 4, 5, 6, 7, 8, 9);
        expectDue("g0,1;b99,1;", 0, 99, 1, 100, 2, 101, 3, 102, 4, 103);
        expectDue("g0,1;b99,198;", 0, 99, 198, 297, 396, 495, 594, 693, 792, 891);
    }

    private static void expectOfGuestsWithoutAPack() {
        check.sentence("each GUEST without a PACK costs 15");
        for (int guests = 0; guests <= 9; guests++) {
            OffFirst x = laid("f0,0,9,10,0,0;g" + guests + ",1;b1,2;");
            for (int q = 0; q <= 9; q++) {
                check.due("expect " + q + " of " + guests, x.expect(q), q + 15 * (q < guests ? guests - q : 0));
            }
        }
    }

    private static void expectByWeights() {
        check.sentence("EXPECT: the sum over told GUESTS of W times all that costs");
        expectDue("g0,1;", 0, 10);
        expectDue("g0,99;", 0, 990);
        expectDue("g2,3;g1,5;", 3 * 30 + 5 * 15, 3 * 25 + 5 * 10, 3 * 20 + 5 * 20, 3 * 30 + 5 * 30);
        expectDue("g1,1;g1,1;", 30, 20);
        expectDue("g9,99;".repeat(6) + "b99,198;", 6 * 99 * 135, 6 * 99 * (99 + 120), 6 * 99 * (198 + 105));
    }

    private static void expectIsNoneWithoutGuests() {
        check.sentence("expect: none (no GUESTS told)");
        OffFirst none = laid("f0,0,9,10,0,0;b1,1;");
        for (int q = 0; q <= 9; q++) {
            check.due("expect " + q, none.expect(q), NONE);
        }
        check.due("BAD ahead of NONE", none.expect(10), BAD);
        check.due("BAD ahead of NONE", none.expect(-1), BAD);
        expectDue("g0,1;b1,1;", 0, 1, 1);
    }

    private static void buyDue(String told, int q) {
        check.due("buy by " + told, laid("f0,0,9,10,0,0;" + told).buy(), q);
    }

    private static void buyTheFewestOfSeveral() {
        check.sentence("BUY: the q of the least EXPECT, the fewest");
        buyDue("g9,1;b15,30;", 0);
        buyDue("g9,1;b16,30;", 0);
        buyDue("g9,1;b14,30;", 9);
        buyDue("g9,1;b14,28;", 9);
        buyDue("g3,1;b16,29;", 2);
        buyDue("g4,1;b16,29;", 4);
        buyDue("g3,1;b15,29;", 2);
        buyDue("g3,1;b14,29;", 3);
        buyDue("g0,1;g1,2;b10,20;", 0);
        buyDue("g0,1;g1,3;b10,20;", 1);
        buyDue("g0,2;g1,4;b10,20;", 0);
    }

    private static void buyOfLeastAndMost() {
        check.sentence("BUY: q (0 to 9)");
        for (int guests = 0; guests <= 9; guests++) {
            buyDue("g" + guests + ",1;b1,2;", guests);
            buyDue("g" + guests + ",99;b99,198;", 0);
        }
        // Ten would cost 5 and leave none without: but there are nine at most, which cost 103.
        buyDue("g9,1;b99,1;", 8);
        buyDue("g9,1;b15,1;", 8);
        buyDue("g9,1;b14,1;", 9);
    }

    private static void buyIsNoneWithoutGuests() {
        check.sentence("buy: NONE (no GUESTS told)");
        check.due("a new object", new OffFirst().buy(), NONE);
        buyDue("b1,1;", NONE);
        buyDue("g0,1;", 0);
    }
}
