/** Promises 1, 6, 7, 8 and 31 and the terms at their edges. A test of its own for each sentence. */
public final class HourEdgesTest {
    private static final Check check = new Check("HourEdgesTest");
    private static final int BAD = OffFirst.BAD, NO = OffFirst.NO, NONE = OffFirst.NONE;
    private static final String CELL = "c40,5,10;", FOOD = "f0,0,9,48,3,0;";
    private static final int PLAIN = 0, OPENED = 1, COOKED = 2, FROZEN = 3;

    public static void main(String[] args) {
        aNewObjectIsAsTold();
        aNewObjectHasNoText();
        hourModuloADay();
        warmIfTheDoorIsOpened();
        warmthTakesToldHours();
        warmthTakesToldCells();
        plainAndCookedAgeByTenAndWarmth();
        openedAgesByTwiceThat();
        frozenAgesByOne();
        agesByTheHoursThatGoBy();
        onlyOneThatIsThereAges();
        limit();
        offAtItsLimit();
        foodTakesToldFoods();
        foodTakesToldWhats();
        foodTellsItsFate();
        foodTellsIfOff();
        hoursTakesOneToNineHundredNinetyNine();
        hoursUpToTheLast();
        hoursIsBadAheadOfNo();
        hoursTellsHowManyAreOff();
        countTakesToldWhats();
        countOfLeastAndMost();
        countOfWhatChanges();
        fiveHundredAndTwelveCalls();
        check.end();
    }

    /** A FOOD of a KIND in a CELL, with the door opened in HOUR 0. */
    private static OffFirst of(int kind, int warm, int more, int life) {
        return check.laid("c" + warm + "," + more + ",1;o0;f" + kind + ",0,1," + life + ",0,0;");
    }

    // ---- a new object

    private static void aNewObjectIsAsTold() {
        check.sentence("at first c40,5,10;f0,0,9,48,3,0;");
        int[] counts = {1, 1, 0, 0, 0, 0, 0, 1, 0, 0};
        int[] food = {0, 0, 0, 2400, 0, 0, 0};
        OffFirst x = new OffFirst();
        for (int what = 0; what < 10; what++) {
            check.due("count " + what, x.count(what), counts[what]);
        }
        for (int what = 0; what < 7; what++) {
            check.due("food 0, " + what, x.food(0, what), food[what]);
        }
        for (int hour = 0; hour < 24; hour++) {
            check.due("warmth in " + hour, x.warmth(0, hour), 40);
        }
        // R shows in a CUT: 42 HOURS are 2100; 295 more in five HOURS, 300 if opened.
        Check.goBy(x, 42);
        check.due("a CUT with the door shut", x.cut(5, false), 0);
        check.due("a CUT with the door opened", x.cut(5, true), 1);
        // FROZEN 83 HOURS and OPENED 22 are 2283; then twice 10, 40, 3 and 5: 2399 of 2400.
        OffFirst thawed = new OffFirst();
        thawed.make(0, FROZEN);
        thawed.hours(83);
        thawed.make(0, 0);
        thawed.hours(22);
        check.due("R is not 6", thawed.cut(1, true), 0);
        OffFirst coin = new OffFirst();
        check.due("V", coin.lost(48), 9);
        check.due("slip", coin.smell(1), 1);
        check.due("no GUESTS", coin.expect(0), NONE);
        OffFirst printed = new OffFirst();
        printed.make(0, FROZEN);
        printed.hours(95);
        check.due("day 3 is not above P", printed.print(0), 0);
        printed.hours(1);
        check.due("day 4 is", printed.print(0), 1);
    }

    private static void aNewObjectHasNoText() {
        check.sentence("THE TEXT is empty");
        OffFirst x = new OffFirst();
        check.due("bytes", x.count(8), 0);
        check.due("fault", x.fault(), NONE);
        check.due("lay", x.lay(), NO);
        check.due("wipe", x.wipe(), 0);
        check.due("write", x.write(1, 'x'), 1);
        check.due("fault", x.fault(), 0);
    }

    // ---- HOURS, warmth

    private static void hourModuloADay() {
        check.sentence("HOUR t (0 first) is HOUR t modulo 24 of DAY t by 24");
        for (int opened : new int[] {0, 11, 23}) {
            String text = CELL + "o" + opened + ";" + FOOD;
            OffFirst x = check.laid(text);
            for (int hour = 0; hour <= 99999; hour++) {
                if (hour % 400 == 399) {
                    x = check.laid(text);
                }
                int due = hour % 24 == opened ? 45 : 40;
                int got = x.warmth(0, hour);
                if (got != due) {
                    check.due("o" + opened + ": warmth in " + hour, got, due);
                }
            }
        }
    }

    private static void warmIfTheDoorIsOpened() {
        check.sentence("a CELL is W warm, W and R, if the door is OPENED then");
        for (int warm : new int[] {0, 1, 199, 200}) {
            for (int more : new int[] {0, 1, 98, 99}) {
                OffFirst x = check.laid("c" + warm + "," + more + ",1;o5;" + FOOD);
                check.due("ahead of the door's HOUR", x.warmth(0, 4), warm);
                check.due("in the door's HOUR", x.warmth(0, 5), warm + more);
                check.due("behind the door's HOUR", x.warmth(0, 6), warm);
            }
        }
        OffFirst two = check.laid("c40,5,1;c0,99,1;o5;" + FOOD);
        check.due("of each CELL its own", two.warmth(1, 5), 99);
        check.due("of each CELL its own", two.warmth(0, 5), 45);
    }

    private static void warmthTakesToldHours() {
        check.sentence("warmth: in HOUR t (0 to 99999)");
        OffFirst x = check.laid("c40,5,1;o0;o15;" + FOOD);
        check.due("the first", x.warmth(0, 0), 45);
        check.due("the last, HOUR 15 of its day", x.warmth(0, 99999), 45);
        check.due("the last but one", x.warmth(0, 99998), 40);
        for (int t : new int[] {-1, -24, 100000, 100008, Integer.MIN_VALUE, Integer.MAX_VALUE}) {
            check.due("warmth in " + t, x.warmth(0, t), BAD);
        }
        Check.goBy(x, 99999);
        check.due("whatever the HOUR is", x.warmth(0, 0), 45);
        check.due("whatever the HOUR is", x.warmth(0, 99999), 45);
        check.due("whatever the HOUR is", x.warmth(0, 100000), BAD);
    }

    private static void warmthTakesToldCells() {
        check.sentence("warmth: BAD (CELLS: such as there are)");
        for (int cells = 1; cells <= 6; cells++) {
            OffFirst x = check.laid(CELL.repeat(cells) + FOOD);
            check.due("the last of " + cells, x.warmth(cells - 1, 0), 40);
            for (int c : new int[] {cells, cells + 1, -1, Integer.MIN_VALUE, Integer.MAX_VALUE}) {
                check.due("warmth of " + c + " of " + cells, x.warmth(c, 0), BAD);
            }
        }
    }

    // ---- AGE

    private static void plainAndCookedAgeByTenAndWarmth() {
        check.sentence("a FOOD ages: PLAIN, COOKED by 10 and its CELL's warmth");
        for (int kind : new int[] {PLAIN, COOKED}) {
            for (int warm : new int[] {0, 1, 200}) {
                for (int more : new int[] {0, 99}) {
                    OffFirst x = of(kind, warm, more, 240);
                    x.hours(1);
                    check.due("door opened", x.food(0, 2), 10 + warm + more);
                    x.hours(1);
                    check.due("door shut", x.food(0, 2), 2 * (10 + warm) + more);
                }
            }
        }
    }

    private static void openedAgesByTwiceThat() {
        check.sentence("a FOOD ages: OPENED by twice that");
        for (int warm : new int[] {0, 1, 200}) {
            for (int more : new int[] {0, 99}) {
                OffFirst x = of(OPENED, warm, more, 240);
                x.hours(1);
                check.due("door opened", x.food(0, 2), 2 * (10 + warm + more));
                x.hours(1);
                check.due("door shut", x.food(0, 2), 2 * (2 * (10 + warm) + more));
            }
        }
    }

    private static void frozenAgesByOne() {
        check.sentence("a FOOD ages: FROZEN by 1");
        for (int warm : new int[] {0, 200}) {
            OffFirst x = of(FROZEN, warm, 99, 240);
            x.hours(1);
            check.due("door opened", x.food(0, 2), 1);
            x.hours(1);
            check.due("door shut", x.food(0, 2), 2);
            x.hours(999);
            check.due("far on", x.food(0, 2), 1001);
        }
    }

    private static void agesByTheHoursThatGoBy() {
        check.sentence("HOURS go by: each ages a FOOD by its own warmth");
        for (int n = 1; n <= 100; n++) {
            for (int from = 0; from < 48; from += 7) {
                OffFirst x = check.laid("c40,5,9;o0;o7;o23;f0,0,1,240,0,0;f1,0,1,240,0,0;f3,0,1,240,0,0;");
                Check.goBy(x, from);
                int plain = x.food(0, 2);
                int due = plain;
                for (int hour = from; hour < from + n; hour++) {
                    int ofDay = hour % 24;
                    due += ofDay == 0 || ofDay == 7 || ofDay == 23 ? 55 : 50;
                }
                x.hours(n);
                check.due(n + " HOURS from " + from, x.food(0, 2), due);
                check.due(n + " HOURS from " + from + ", opened", x.food(1, 2), 2 * due);
                check.due(n + " HOURS from " + from + ", frozen", x.food(2, 2), from + n);
            }
        }
    }

    private static void onlyOneThatIsThereAges() {
        check.sentence("a FOOD that is THERE ages by that");
        OffFirst x = check.laid("c40,5,9;f0,0,1,240,0,0;f0,0,1,240,0,0;f0,0,1,240,0,0;");
        x.hours(1);
        x.eat(0);
        x.throwOut(1);
        x.hours(5);
        check.due("eaten", x.food(0, 2), 50);
        check.due("thrown out", x.food(1, 2), 50);
        check.due("there", x.food(2, 2), 300);
    }

    private static void limit() {
        check.sentence("its LIMIT is 50 L, of a COOKED one 50 times (L and 96)");
        for (int life : new int[] {1, 2, 143, 144, 239, 240}) {
            check.due("plain", of(PLAIN, 40, 5, life).food(0, 3), 50 * life);
            check.due("opened", of(OPENED, 40, 5, life).food(0, 3), 50 * life);
            check.due("cooked", of(COOKED, 40, 5, life).food(0, 3), 50 * (life + 96));
            check.due("frozen", of(FROZEN, 40, 5, life).food(0, 3), 50 * life);
            OffFirst x = of(PLAIN, 40, 5, life);
            x.make(0, 2);
            check.due("cooked then", x.food(0, 3), 50 * (life + 96));
            x.make(0, 3);
            check.due("frozen then", x.food(0, 3), 50 * life);
        }
    }

    private static void offAtItsLimit() {
        check.sentence("it is OFF, if its AGE is its LIMIT or more");
        OffFirst x = check.laid("c40,0,9;f3,0,1,1,0,0;");
        check.due("AGE 0", x.food(0, 5), 0);
        check.due("AGE 49: none is OFF", x.hours(49), 0);
        check.due("AGE 49", x.food(0, 5), 0);
        check.due("AGE 50: one is OFF", x.hours(1), 1);
        check.due("AGE 50", x.food(0, 5), 1);
        check.due("AGE 51: one is OFF", x.hours(1), 1);
        check.due("AGE 51", x.food(0, 5), 1);
        // 97 by 50 is 4850, in HOURS of 50.
        OffFirst cooked = check.laid("c40,0,9;f2,0,1,1,0,0;");
        check.due("cooked, 4800 of 4850", cooked.hours(96), 0);
        check.due("cooked, 4850 of 4850", cooked.hours(1), 1);
    }

    // ---- food

    private static void foodTakesToldFoods() {
        check.sentence("food: BAD (FOODS: such as there are)");
        for (int foods = 1; foods <= 10; foods++) {
            OffFirst x = check.laid(CELL + FOOD.repeat(foods));
            check.due("the last of " + foods, x.food(foods - 1, 3), 2400);
            for (int i : new int[] {foods, foods + 1, -1, 10, Integer.MIN_VALUE, Integer.MAX_VALUE}) {
                check.due("food " + i + " of " + foods, x.food(i, 0), BAD);
            }
        }
    }

    private static void foodTakesToldWhats() {
        check.sentence("food: KIND (what = 0), CELL (1), AGE (2), LIMIT (3), .. (4), OFF (5), SORT (6)");
        OffFirst x = check.laid("c40,5,9;c10,0,9;f1,1,1,1,0,3;");
        x.hours(3);
        x.eat(0);
        int[] due = {1, 1, 120, 50, 1, 1, 3};
        for (int what = 0; what < 7; what++) {
            check.due("food 0, " + what, x.food(0, what), due[what]);
        }
        for (int what : new int[] {-1, 7, 8, Integer.MIN_VALUE, Integer.MAX_VALUE}) {
            check.due("food 0, " + what, x.food(0, what), BAD);
            check.due("food 1, " + what, x.food(1, what), BAD);
        }
    }

    private static void foodTellsItsFate() {
        check.sentence("food: 0 THERE, 1 EATEN, 2 THROWN OUT (4)");
        OffFirst x = check.laid(CELL + FOOD.repeat(3));
        x.eat(1);
        x.throwOut(2);
        for (int i = 0; i < 3; i++) {
            check.due("food " + i + ", 4", x.food(i, 4), i);
        }
        x.hours(999);
        for (int i = 0; i < 3; i++) {
            check.due("food " + i + ", 4 later", x.food(i, 4), i);
        }
    }

    private static void foodTellsIfOff() {
        check.sentence("food: 1 if it is OFF (5)");
        OffFirst x = check.laid("c40,0,9;f0,0,1,2,0,0;f0,0,1,1,0,0;");
        check.due("AGE 0 of 100", x.food(0, 5), 0);
        x.hours(1);
        check.due("AGE 50 of 100", x.food(0, 5), 0);
        check.due("AGE 50 of 50", x.food(1, 5), 1);
        x.hours(1);
        check.due("AGE 100 of 100", x.food(0, 5), 1);
        check.due("AGE 100 of 50", x.food(1, 5), 1);
        x.make(1, 2);
        check.due("AGE 100 of 4850", x.food(1, 5), 0);
    }

    // ---- hours

    private static void hoursTakesOneToNineHundredNinetyNine() {
        check.sentence("hours: n HOURS (1 to 999) go by");
        for (int n : new int[] {1, 2, 24, 998, 999}) {
            OffFirst x = new OffFirst();
            check.due("hours " + n, x.hours(n), n >= 48 ? 1 : 0);
            check.due("the HOUR", x.count(6), n);
            check.due("the AGE", x.food(0, 2), 50 * n);
        }
        for (int n : new int[] {0, -1, -24, 1000, 1001, 99999, 100000, Integer.MIN_VALUE, Integer.MAX_VALUE}) {
            OffFirst x = new OffFirst();
            check.due("hours " + n, x.hours(n), BAD);
            check.due("the HOUR", x.count(6), 0);
            check.due("the AGE", x.food(0, 2), 0);
        }
    }

    private static void hoursUpToTheLast() {
        check.sentence("hours: NO: above 99999 in all");
        for (int n : new int[] {1, 2, 500, 998, 999}) {
            OffFirst x = new OffFirst();
            x.make(0, 3);
            Check.goBy(x, 99999 - n);
            check.due("the HOUR", x.count(6), 99999 - n);
            if (n < 999) {
                check.due("hours " + (n + 1), x.hours(n + 1), NO);
                check.due("hours 999", x.hours(999), NO);
            }
            check.due("the HOUR", x.count(6), 99999 - n);
            check.due("the AGE", x.food(0, 2), 99999 - n);
            check.due("hours " + n, x.hours(n), 1);
            check.due("the last HOUR", x.count(6), 99999);
            check.due("hours 1", x.hours(1), NO);
            check.due("hours 999", x.hours(999), NO);
            check.due("the last HOUR", x.count(6), 99999);
            check.due("the AGE", x.food(0, 2), 99999);
        }
    }

    private static void hoursIsBadAheadOfNo() {
        check.sentence("hours: of BAD and NO the first");
        OffFirst x = new OffFirst();
        Check.goBy(x, 99999);
        for (int n : new int[] {0, -1, 1000, Integer.MAX_VALUE, Integer.MIN_VALUE}) {
            check.due("hours " + n, x.hours(n), BAD);
        }
        check.due("hours 1", x.hours(1), NO);
    }

    private static void hoursTellsHowManyAreOff() {
        check.sentence("hours: how many FOODS are THERE and OFF");
        StringBuilder text = new StringBuilder("c40,0,10;");
        for (int i = 0; i < 10; i++) {
            text.append("f0,0,1,").append(2 * i + 2).append(",0,0;");
        }
        OffFirst x = check.laid(text.toString());
        for (int hour = 1; hour <= 20; hour++) {
            check.due("behind HOUR " + hour, x.hours(1), hour / 2);
        }
        x.eat(0);
        check.due("one is eaten", x.hours(1), 9);
        x.throwOut(9);
        check.due("one is thrown out", x.hours(1), 8);
        OffFirst good = check.laid("c40,0,10;" + FOOD.repeat(10));
        check.due("none", good.hours(47), 0);
        check.due("all", good.hours(1), 10);
    }

    // ---- count

    private static void countTakesToldWhats() {
        check.sentence("count: 0 to 9; BAD");
        OffFirst x = new OffFirst();
        for (int what = 0; what <= 9; what++) {
            check.holds("count " + what + " tells", x.count(what) >= 0);
        }
        for (int what : new int[] {-1, 10, 11, Integer.MIN_VALUE, Integer.MAX_VALUE}) {
            check.due("count " + what, x.count(what), BAD);
        }
    }

    private static void countOfLeastAndMost() {
        check.sentence("count: how many");
        OffFirst x = check.laid("c1,1,9;".repeat(6) + "f0,0,1,1,1,1;".repeat(5) + "f0,1,1,1,1,1;".repeat(5)
                + "d1;".repeat(5) + "e1;".repeat(4) + "g0,1;".repeat(6));
        int[] most = {10, 6, 5, 4, 6, 0, 0, 10, 229, 0};
        for (int what = 0; what <= 9; what++) {
            check.due("of a full one " + what, x.count(what), most[what]);
        }
        OffFirst few = check.laid(CELL + FOOD);
        int[] least = {1, 1, 0, 0, 0, 0, 0, 1, 23, 0};
        for (int what = 0; what <= 9; what++) {
            check.due("of the least " + what, few.count(what), least[what]);
        }
    }

    private static void countOfWhatChanges() {
        check.sentence("count: SPANS (5), the HOUR (6), THERE (7), bytes (8), KEPT (9)");
        OffFirst x = check.laid(CELL + FOOD.repeat(3));
        for (int many = 1; many <= 8; many++) {
            x.span(40, 48);
            check.due("SPANS", x.count(5), many);
        }
        for (int many = 1; many <= 2; many++) {
            x.keep();
            check.due("KEPT", x.count(9), many);
        }
        for (int many = 2; many >= 0; many--) {
            x.eat(many);
            check.due("THERE", x.count(7), many);
            check.due("FOODS", x.count(0), 3);
        }
        Check.goBy(x, 99999);
        check.due("the HOUR", x.count(6), 99999);
        Check.write(x, "o1;".repeat(116) + "x");
        check.due("bytes", x.count(8), 400);
        check.due("noSpans", x.noSpans(), 8);
        check.due("SPANS", x.count(5), 0);
    }

    private static void fiveHundredAndTwelveCalls() {
        check.sentence("an object is used for at most 512 calls");
        OffFirst x = new OffFirst();
        for (int call = 1; call <= 511; call++) {
            int off = x.hours(call % 2 == 0 ? 1 : 2);
            if (off != (call >= 32 ? 1 : 0)) {
                check.due("hours, call " + call, off, call >= 32 ? 1 : 0);
            }
        }
        check.due("the HOUR", x.count(6), 256 * 2 + 255);
        OffFirst kept = new OffFirst();
        for (int call = 1; call <= 170; call++) {
            kept.keep();
            kept.hours(1);
            kept.back();
        }
        check.due("keep", kept.keep(), 1);
        check.due("the HOUR", kept.count(6), 0);
        OffFirst text = new OffFirst();
        for (int call = 1; call <= 255; call++) {
            text.write(8, 0);
            text.wipe();
        }
        check.due("write", text.write(1, 'o'), 1);
        check.due("fault", text.fault(), 0);
    }
}
