/** Promises 9 to 14 at their edges: move, make, eat, throwOut, offIn, lost. A test of its own for each sentence. */
public final class FoodEdgesTest {
    private static final Check check = new Check("FoodEdgesTest");
    private static final int BAD = OffFirst.BAD, NO = OffFirst.NO, NONE = OffFirst.NONE;
    /** A PLAIN FOOD ages by 50 an HOUR in it. */
    private static final String CELL = "c40,0,10;";
    private static final int[] NO_NUMBERS = {-1, Integer.MIN_VALUE, Integer.MAX_VALUE};

    public static void main(String[] args) {
        moveTellsHowManyAreInTheCell();
        moveNeedsRoom();
        oneThatIsNotThereTakesNoRoom();
        moveNeedsAnotherCell();
        moveNeedsOneThatIsThere();
        moveTakesToldFoodsAndCells();
        moveIsBadAheadOfNo();
        movedItAgesByItsNewCell();
        openedIfPlain();
        cookedIfPlainOrOpened();
        frozenIfNotFrozen();
        thawedIfFrozen();
        makeNeedsOneThatIsThere();
        makeTakesToldNumbers();
        makeIsBadAheadOfNo();
        makeLeavesTheAge();
        takenAwayTellsIfItWasOff(1);
        takenAwayTellsIfItWasOff(2);
        takenAwayItIsThereNoMore(1);
        takenAwayItIsThereNoMore(2);
        takingAwayTakesToldFoods(1);
        takingAwayTakesToldFoods(2);
        offInIsTheFewestHours();
        offInIsNoughtIfItIsOff();
        offInUpToFiveThousandHours();
        offInCountsFromNowOn();
        offInLiesInTheToldCell();
        offInNeedsOneThatIsThere();
        offInTakesToldFoodsAndCells();
        offInOrder();
        lostTakesNoughtToFiveHundred();
        lostIsTheCoinOfThoseThatAreOff();
        lostIsOfThoseThatAreThere();
        lostOfLeastAndMost();
        lostChangesNothing();
        check.end();
    }

    // ---- move

    private static void moveTellsHowManyAreInTheCell() {
        check.sentence("move: how many are in that CELL then");
        OffFirst x = check.laid("c40,0,10;c40,0,10;" + "f0,0,1,9,0,0;".repeat(10));
        for (int i = 0; i < 10; i++) {
            check.due("move " + i, x.move(i, 1), i + 1);
            check.due("its CELL", x.food(i, 1), 1);
        }
        for (int i = 9; i >= 0; i--) {
            check.due("back again " + i, x.move(i, 0), 10 - i);
        }
    }

    private static void moveNeedsRoom() {
        check.sentence("move: into a CELL with room (NO: no room)");
        for (int room = 1; room <= 9; room++) {
            OffFirst x = check.laid("c40,0,10;c40,0," + room + ";" + "f0,0,1,9,0,0;".repeat(10));
            for (int i = 0; i < room; i++) {
                check.due("into room for " + room, x.move(i, 1), i + 1);
            }
            check.due("one more than " + room, x.move(room, 1), NO);
            check.due("its CELL stays", x.food(room, 1), 0);
            check.due("one goes", x.move(0, 0), 11 - room);
            check.due("there is room again", x.move(room, 1), room);
        }
    }

    private static void oneThatIsNotThereTakesNoRoom() {
        check.sentence("THERE no more: it takes no room");
        OffFirst x = check.laid("c40,0,10;c40,0,1;f0,0,1,9,0,0;f0,1,1,9,0,0;f0,0,1,9,0,0;");
        check.due("no room", x.move(0, 1), NO);
        x.eat(1);
        check.due("room of an eaten one", x.move(0, 1), 1);
        x.throwOut(0);
        check.due("room of a thrown one", x.move(2, 1), 1);
    }

    private static void moveNeedsAnotherCell() {
        check.sentence("move: NO: there already");
        OffFirst x = check.laid("c40,0,10;c40,0,10;f0,0,1,9,0,0;f0,1,1,9,0,0;");
        check.due("there already", x.move(0, 0), NO);
        check.due("there already", x.move(1, 1), NO);
        check.due("moved", x.move(0, 1), 2);
        check.due("there already now", x.move(0, 1), NO);
    }

    private static void moveNeedsOneThatIsThere() {
        check.sentence("move: NO: not THERE");
        OffFirst x = check.laid("c40,0,10;c40,0,10;f0,0,1,9,0,0;f0,0,1,9,0,0;");
        x.eat(0);
        x.throwOut(1);
        for (int i = 0; i < 2; i++) {
            check.due("move " + i, x.move(i, 1), NO);
            check.due("its CELL stays", x.food(i, 1), 0);
        }
    }

    private static void moveTakesToldFoodsAndCells() {
        check.sentence("move: BAD (FOODS, CELLS: such as there are)");
        OffFirst x = check.laid("c40,0,10;c40,0,10;f0,0,1,9,0,0;f0,0,1,9,0,0;f0,0,1,9,0,0;");
        for (int none : NO_NUMBERS) {
            check.due("FOOD " + none, x.move(none, 1), BAD);
            check.due("CELL " + none, x.move(0, none), BAD);
        }
        check.due("FOOD 3", x.move(3, 1), BAD);
        check.due("CELL 2", x.move(0, 2), BAD);
        check.due("the last FOOD, the last CELL", x.move(2, 1), 1);
        check.due("the first FOOD stays", x.food(0, 1), 0);
    }

    private static void moveIsBadAheadOfNo() {
        check.sentence("move: of BAD and NO the first");
        OffFirst x = check.laid("c40,0,10;f0,0,1,9,0,0;");
        x.eat(0);
        check.due("not THERE, no such CELL", x.move(0, 1), BAD);
        check.due("not THERE, no such CELL", x.move(0, -1), BAD);
        check.due("not THERE, and there already", x.move(0, 0), NO);
    }

    private static void movedItAgesByItsNewCell() {
        check.sentence("moved: it ages by its CELL's warmth");
        OffFirst x = check.laid("c40,5,10;c100,9,1;o1;f0,0,1,9,0,0;");
        x.hours(1);
        x.move(0, 1);
        x.hours(1);
        check.due("AGE", x.food(0, 2), 50 + 119);
        x.move(0, 0);
        x.hours(1);
        check.due("AGE", x.food(0, 2), 50 + 119 + 50);
    }

    // ---- make

    private static OffFirst of(int kind) {
        return check.laid("c40,0,10;f" + kind + ",0,1,9,0,0;");
    }

    private static void makeDue(int k, int becomes, int... answers) {
        for (int kind = 0; kind < 4; kind++) {
            OffFirst x = of(kind);
            check.due("make " + k + " of KIND " + kind, x.make(0, k), answers[kind]);
            check.due("KIND then", x.food(0, 0), answers[kind] == NO ? kind : becomes);
            check.due("LIMIT then", x.food(0, 3), x.food(0, 0) == 2 ? 5250 : 450);
        }
    }

    private static void openedIfPlain() {
        check.sentence("OPENED (if PLAIN)");
        makeDue(1, 1, 0, NO, NO, NO);
    }

    private static void cookedIfPlainOrOpened() {
        check.sentence("COOKED (if PLAIN or OPENED)");
        makeDue(2, 2, 0, 1, NO, NO);
    }

    private static void frozenIfNotFrozen() {
        check.sentence("FROZEN (if not FROZEN)");
        makeDue(3, 3, 0, 1, 2, NO);
    }

    private static void thawedIfFrozen() {
        check.sentence("THAWED (if FROZEN: OPENED then)");
        makeDue(0, 1, NO, NO, NO, 3);
    }

    private static void makeNeedsOneThatIsThere() {
        check.sentence("make: a FOOD that is THERE (NO)");
        for (int kind = 0; kind < 4; kind++) {
            for (int k = 0; k < 4; k++) {
                OffFirst eaten = of(kind);
                eaten.eat(0);
                check.due("an eaten one: make " + k, eaten.make(0, k), NO);
                check.due("its KIND stays", eaten.food(0, 0), kind);
                OffFirst thrown = of(kind);
                thrown.throwOut(0);
                check.due("a thrown one: make " + k, thrown.make(0, k), NO);
                check.due("its KIND stays", thrown.food(0, 0), kind);
            }
        }
    }

    private static void makeTakesToldNumbers() {
        check.sentence("make: OPENED (k = 1), COOKED (2), FROZEN (3), THAWED (0); BAD");
        for (int kind = 0; kind < 4; kind++) {
            OffFirst x = of(kind);
            for (int none : NO_NUMBERS) {
                check.due("make " + none, x.make(0, none), BAD);
                check.due("FOOD " + none, x.make(none, 1), BAD);
            }
            check.due("make 4", x.make(0, 4), BAD);
            check.due("FOOD 1", x.make(1, 1), BAD);
            check.due("KIND stays", x.food(0, 0), kind);
        }
    }

    private static void makeIsBadAheadOfNo() {
        check.sentence("make: of BAD and NO the first");
        OffFirst x = of(0);
        x.eat(0);
        check.due("not THERE, no such k", x.make(0, 4), BAD);
        check.due("not THERE, no such k", x.make(0, -1), BAD);
        check.due("not THERE", x.make(0, 1), NO);
    }

    private static void makeLeavesTheAge() {
        check.sentence("make: the AGE stays, the LIMIT is that of its KIND");
        OffFirst x = check.laid("c40,0,10;f0,0,1,9,0,0;");
        x.hours(8);
        check.due("opened", x.make(0, 1), 0);
        check.due("AGE", x.food(0, 2), 400);
        x.hours(1);
        check.due("500 of 450", x.food(0, 5), 1);
        check.due("cooked, OFF as it is", x.make(0, 2), 1);
        check.due("500 of 5250", x.food(0, 5), 0);
        check.due("frozen", x.make(0, 3), 2);
        check.due("500 of 450", x.food(0, 5), 1);
        check.due("thawed", x.make(0, 0), 3);
        check.due("AGE", x.food(0, 2), 500);
    }

    // ---- eat, throwOut

    private static int take(OffFirst x, int fate, int i) {
        return fate == 1 ? x.eat(i) : x.throwOut(i);
    }

    private static String named(int fate) {
        return fate == 1 ? "eat" : "throwOut";
    }

    private static void takenAwayTellsIfItWasOff(int fate) {
        check.sentence(named(fate) + ": 1 if it was OFF, 0");
        for (int age = 48; age <= 51; age++) {
            OffFirst x = check.laid("c40,0,10;f3,0,1,1,0,0;");
            x.hours(age);
            check.due("AGE " + age + " of 50", take(x, fate, 0), age >= 50 ? 1 : 0);
            check.due("its fate", x.food(0, 4), fate);
        }
    }

    private static void takenAwayItIsThereNoMore(int fate) {
        check.sentence(named(fate) + ": it is THERE no more; NO: not THERE");
        for (int first = 1; first <= 2; first++) {
            OffFirst x = check.laid("c40,0,10;f0,0,1,1,0,0;f0,0,1,1,0,0;");
            take(x, first, 0);
            check.due("the other is THERE", x.count(7), 1);
            x.hours(1);
            check.due("once more", take(x, fate, 0), NO);
            check.due("its fate stays", x.food(0, 4), first);
            check.due("the other is THERE", x.food(1, 4), 0);
            check.due("the last one", take(x, fate, 1), 1);
            check.due("none is THERE", x.count(7), 0);
        }
    }

    private static void takingAwayTakesToldFoods(int fate) {
        check.sentence(named(fate) + ": BAD (FOODS: such as there are)");
        for (int foods = 1; foods <= 10; foods++) {
            OffFirst x = check.laid(CELL + "f0,0,1,9,0,0;".repeat(foods));
            for (int none : NO_NUMBERS) {
                check.due("FOOD " + none, take(x, fate, none), BAD);
            }
            check.due("FOOD " + foods + " of " + foods, take(x, fate, foods), BAD);
            check.due("THERE", x.count(7), foods);
            check.due("the last one", take(x, fate, foods - 1), 0);
            check.due("THERE", x.count(7), foods - 1);
        }
    }

    // ---- offIn

    private static void offInIsTheFewestHours() {
        check.sentence("OFF IN: the fewest HOURS behind which it is OFF");
        for (int life = 1; life <= 240; life++) {
            // 10 an HOUR: 5 HOURS for each of LIFE; COOKED 480 more.
            OffFirst x = check.laid("c0,0,10;c1,0,1;f0,0,1," + life + ",0,0;f1,0,1," + life + ",0,0;f2,0,1," + life
                    + ",0,0;f3,0,1," + life + ",0,0;");
            check.due("plain", x.offIn(0, 0), 5 * life);
            check.due("opened", x.offIn(1, 0), (5 * life + 1) / 2);
            check.due("cooked", x.offIn(2, 0), 5 * life + 480);
            check.due("frozen", x.offIn(3, 0), 50 * life <= 5000 ? 50 * life : NONE);
            check.due("plain, 11 an HOUR", x.offIn(0, 1), (50 * life + 10) / 11);
        }
    }

    private static void offInIsNoughtIfItIsOff() {
        check.sentence("OFF IN: 0 HOURS");
        OffFirst x = check.laid("c40,0,10;c0,0,10;f3,0,1,1,0,0;");
        x.hours(49);
        check.due("AGE 49 of 50", x.offIn(0, 0), 1);
        x.hours(1);
        check.due("AGE 50 of 50", x.offIn(0, 0), 0);
        check.due("in another CELL", x.offIn(0, 1), 0);
        Check.goBy(x, 99949);
        check.due("in the last HOUR", x.offIn(0, 0), 0);
    }

    private static void offInUpToFiveThousandHours() {
        check.sentence("OFF IN: (0 to 5000); none");
        OffFirst x = check.laid("c0,0,10;f3,0,1,100,0,0;f3,0,1,101,0,0;f3,0,1,240,0,0;");
        check.due("5000", x.offIn(0, 0), 5000);
        check.due("5050", x.offIn(1, 0), NONE);
        x.hours(1);
        check.due("4999", x.offIn(0, 0), 4999);
        check.due("5049", x.offIn(1, 0), NONE);
        x.hours(48);
        check.due("5001", x.offIn(1, 0), NONE);
        x.hours(1);
        check.due("5000", x.offIn(1, 0), 5000);
        check.due("11950", x.offIn(2, 0), NONE);
        x.make(2, 0);
        check.due("thawed: 11950 by 20", x.offIn(2, 0), 598);
    }

    private static void offInCountsFromNowOn() {
        check.sentence("OFF IN: from now on");
        for (int age = 0; age <= 102; age++) {
            OffFirst x = check.laid("c0,0,10;f3,0,1,1,0,0;f3,0,1,2,0,0;");
            Check.goBy(x, age);
            check.due("frozen, AGE " + age + " of 50", x.offIn(0, 0), Math.max(50 - age, 0));
            check.due("frozen, AGE " + age + " of 100", x.offIn(1, 0), Math.max(100 - age, 0));
        }
        // 150 an HOUR in HOUR 0 of each day, 51 else.
        for (int from = 0; from <= 48; from++) {
            OffFirst x = check.laid("c41,99,10;o0;f3,0,1,240,0,0;f2,0,1,1,0,0;");
            Check.goBy(x, from);
            int age = x.food(1, 2);
            int hours = 0;
            while (age < 4850) {
                age += (from + hours) % 24 == 0 ? 150 : 51;
                hours++;
            }
            check.due("cooked, from HOUR " + from, x.offIn(1, 0), hours);
        }
        OffFirst late = check.laid("c0,99,10;o15;f2,0,1,240,0,0;");
        Check.goBy(late, 1000);
        int age = late.food(0, 2);
        int hours = 0;
        while (age < 16800) {
            age += (1000 + hours) % 24 == 15 ? 109 : 10;
            hours++;
        }
        check.due("cooked, from HOUR 1000", late.offIn(0, 0), hours);
    }

    private static void offInLiesInTheToldCell() {
        check.sentence("OFF IN: lying in a CELL (there or not)");
        OffFirst x = check.laid("c40,0,1;c0,0,1;c90,0,9;f0,0,1,20,0,0;f0,1,1,20,0,0;");
        check.due("where it lies", x.offIn(0, 0), 20);
        check.due("in a full CELL", x.offIn(0, 1), 100);
        check.due("in an empty one", x.offIn(0, 2), 10);
        check.due("it is not moved", x.food(0, 1), 0);
        check.due("where the other lies", x.offIn(1, 1), 100);
        check.due("in a full CELL", x.offIn(1, 0), 20);
    }

    private static void offInNeedsOneThatIsThere() {
        check.sentence("offIn: NO: not THERE");
        OffFirst x = check.laid("c40,0,9;f0,0,1,20,0,0;f0,0,1,20,0,0;");
        x.eat(0);
        x.throwOut(1);
        check.due("eaten", x.offIn(0, 0), NO);
        check.due("thrown out", x.offIn(1, 0), NO);
    }

    private static void offInTakesToldFoodsAndCells() {
        check.sentence("offIn: BAD (FOODS, CELLS: such as there are)");
        OffFirst x = check.laid("c40,0,9;c90,0,9;f0,0,1,20,0,0;f0,0,1,10,0,0;");
        for (int none : NO_NUMBERS) {
            check.due("FOOD " + none, x.offIn(none, 0), BAD);
            check.due("CELL " + none, x.offIn(0, none), BAD);
        }
        check.due("FOOD 2", x.offIn(2, 0), BAD);
        check.due("CELL 2", x.offIn(0, 2), BAD);
        check.due("the last FOOD, the last CELL", x.offIn(1, 1), 5);
    }

    private static void offInOrder() {
        check.sentence("offIn: of BAD, NO and NONE the first");
        OffFirst x = check.laid("c0,0,9;f3,0,1,240,0,0;");
        check.due("none", x.offIn(0, 0), NONE);
        check.due("none, no such CELL", x.offIn(0, 1), BAD);
        x.throwOut(0);
        check.due("none, not THERE", x.offIn(0, 0), NO);
        check.due("none, not THERE, no such CELL", x.offIn(0, 1), BAD);
        check.due("none, not THERE, no such CELL", x.offIn(0, -1), BAD);
    }

    // ---- lost

    private static void lostTakesNoughtToFiveHundred() {
        check.sentence("LOST behind n HOURS (0 to 500)");
        OffFirst x = check.laid("c40,0,9;f3,0,1,10,0,0;");
        check.due("lost 0", x.lost(0), 0);
        check.due("lost 499", x.lost(499), 0);
        check.due("lost 500", x.lost(500), 1);
        for (int n : new int[] {-1, 501, 502, 5000, Integer.MIN_VALUE, Integer.MAX_VALUE}) {
            check.due("lost " + n, x.lost(n), BAD);
        }
        x.hours(500);
        check.due("lost 0", x.lost(0), 1);
        check.due("lost -1", x.lost(-1), BAD);
    }

    private static void lostIsTheCoinOfThoseThatAreOff() {
        check.sentence("LOST: the coin of all FOODS that are OFF then");
        OffFirst x = check.laid("c40,0,9;f0,0,1,2,0,0;f0,0,2,3,0,0;f0,0,4,3,0,0;f0,0,0,1,0,0;f0,0,8,4,0,0;");
        int[] due = {0, 0, 1, 7, 15, 15};
        for (int n = 0; n < due.length; n++) {
            check.due("lost " + n, x.lost(n), due[n]);
        }
        x.hours(3);
        check.due("lost 0", x.lost(0), 7);
        check.due("lost 1", x.lost(1), 15);
        // 50 an HOUR and 50 more in HOUR 5 of each day: 350 behind six.
        for (int hour = 0; hour <= 6; hour++) {
            OffFirst door = check.laid("c40,50,9;o5;f0,0,9,7,0,0;");
            Check.goBy(door, hour);
            for (int n = 0; n <= 9; n++) {
                check.due("lost " + n + " from HOUR " + hour, door.lost(n), hour + n >= 6 ? 9 : 0);
            }
        }
    }

    private static void lostIsOfThoseThatAreThere() {
        check.sentence("LOST: of all FOODS that are THERE");
        OffFirst x = check.laid("c40,0,9;f0,0,1,2,0,0;f0,0,2,2,0,0;f0,0,4,2,0,0;");
        x.eat(0);
        check.due("one is eaten", x.lost(500), 6);
        x.hours(2);
        x.throwOut(2);
        check.due("one is thrown out", x.lost(0), 2);
        x.eat(1);
        check.due("none is THERE", x.lost(0), 0);
        check.due("none is THERE", x.lost(500), 0);
    }

    private static void lostOfLeastAndMost() {
        check.sentence("LOST: V coin (0 to 99), of ten FOODS");
        OffFirst x = check.laid("c200,0,10;" + "f0,0,99,1,0,0;".repeat(10));
        check.due("the most", x.lost(1), 990);
        OffFirst none = check.laid("c200,0,10;" + "f0,0,0,1,0,0;".repeat(10));
        check.due("the least", none.lost(500), 0);
    }

    private static void lostChangesNothing() {
        check.sentence("LOST: no HOUR goes by");
        OffFirst x = check.laid("c40,0,9;f0,0,1,2,0,0;");
        check.due("lost 500", x.lost(500), 1);
        check.due("HOUR", x.count(6), 0);
        check.due("AGE", x.food(0, 2), 0);
        check.due("lost 0", x.lost(0), 0);
    }
}
