/** Promises 20 to 24 at their edges: print, smell, line, cut, ill. A test of its own for each sentence. */
public final class ErrorEdgesTest {
    private static final Check check = new Check("ErrorEdgesTest");
    private static final int BAD = OffFirst.BAD, NONE = OffFirst.NONE;
    /** A PLAIN FOOD ages by 50 an HOUR in it: it is OFF behind as many HOURS as its LIFE. */
    private static final String CELL = "c40,0,10;";

    public static void main(String[] args) {
        goodOnesAreThrownAboveTheirPrint();
        offOnesAreEatenUpToTheirPrint();
        goodOrOffAtTheLimit();
        printIsOfThoseThatAreThere();
        printTakesToldWhats();
        smellAtEachAgeAndLine();
        smellOfWarmOnesAndCookedOnes();
        smellTakesToldLines();
        smellIsOfThoseThatAreThere();
        smellAddsUp();
        lineIsTheLowestOfSeveral();
        lineIsNoneIfNoFoodIsThere();
        cutOfOneToFortyEightHours();
        cutWarmsByThreeMoreEachHour();
        cutWithTheDoorOpenedOnce();
        cutWithTheDoorShut();
        cutAgesByKind();
        cutIsOfThoseThatAreThereAndOff();
        cutOfEachCell();
        cutTellsBits();
        illFromSixToSeventyTwoHours();
        illIsDoubledUpToTwentyFourHours();
        illIsCut();
        illIsCutByTheLimitThen();
        illIsOfThoseThatWereEaten();
        illInLowestTerms();
        illIsNoneIfAllAreNought();
        illTakesToldFoodsAndParts();
        illIsBadAheadOfNone();
        check.end();
    }

    private static OffFirst laid(String text) {
        return check.laid(CELL + text);
    }

    // ---- print

    private static void printDue(OffFirst x, int thrown, int eaten) {
        check.due("print 0 in HOUR " + x.count(6), x.print(0), thrown);
        check.due("print 1 in HOUR " + x.count(6), x.print(1), eaten);
    }

    private static void goodOnesAreThrownAboveTheirPrint() {
        check.sentence("how many would be thrown that are good (DAY above P)");
        for (int day : new int[] {0, 1, 2, 98, 99}) {
            OffFirst x = laid("f3,0,1,240," + day + ",0;");
            Check.goBy(x, 24 * day);
            printDue(x, 0, 0);
            x.hours(23);
            printDue(x, 0, 0);
            x.hours(1);
            printDue(x, 1, 0);
        }
    }

    private static void offOnesAreEatenUpToTheirPrint() {
        check.sentence("how many eaten that are OFF (else)");
        for (int day : new int[] {0, 1, 2, 98, 99}) {
            OffFirst x = laid("f0,0,1,1," + day + ",0;");
            Check.goBy(x, 24 * day + 1);
            printDue(x, 0, 1);
            x.hours(22);
            printDue(x, 0, 1);
            x.hours(1);
            printDue(x, 0, 0);
        }
    }

    private static void goodOrOffAtTheLimit() {
        check.sentence("ERRORS BY PRINT: OFF at its LIMIT");
        OffFirst x = laid("f3,0,1,1,0,0;f3,0,1,1,99,0;");
        x.hours(49);
        printDue(x, 1, 0);
        x.hours(1);
        printDue(x, 0, 1);
    }

    private static void printIsOfThoseThatAreThere() {
        check.sentence("ERRORS BY PRINT of FOODS that are THERE");
        OffFirst good = laid("f3,0,1,240,0,0;".repeat(10));
        good.hours(24);
        OffFirst off = laid("f0,0,1,1,99,0;".repeat(10));
        off.hours(24);
        for (int i = 0; i < 10; i++) {
            printDue(good, 10 - i, 0);
            printDue(off, 0, 10 - i);
            check.due("one goes", i % 2 == 0 ? good.eat(i) : good.throwOut(i), 0);
            check.due("one goes", i % 2 == 0 ? off.eat(i) : off.throwOut(i), 1);
        }
        printDue(good, 0, 0);
        printDue(off, 0, 0);
    }

    private static void printTakesToldWhats() {
        check.sentence("print: good ones thrown (what = 0), OFF ones eaten (1); BAD");
        OffFirst x = laid("f0,0,1,1,99,0;");
        for (int what : new int[] {-1, 2, 3, Integer.MIN_VALUE, Integer.MAX_VALUE}) {
            check.due("print " + what, x.print(what), BAD);
        }
    }

    // ---- smell, line

    private static int tenths(boolean smellsOff, boolean isOff, int slip) {
        return smellsOff == isOff ? slip : 10 - slip;
    }

    private static void smellAtEachAgeAndLine() {
        check.sentence("it smells OFF, if 10 AGE is T LIMIT or more, but slips");
        for (int slip = 0; slip <= 4; slip++) {
            for (int age = 0; age <= 101; age++) {
                // FROZEN, LIMIT 50: each line is 5 HOURS.
                OffFirst x = laid("f3,0,1,1,0,0;s" + slip + ";");
                if (age > 0) {
                    x.hours(age);
                }
                for (int line = 0; line <= 20; line++) {
                    check.due("smell " + line + " at AGE " + age, x.smell(line),
                            tenths(age >= 5 * line, age >= 50, slip));
                }
                check.due("line at AGE " + age, x.line(), age >= 50 ? 0 : age / 5 + 1);
            }
        }
    }

    private static void smellOfWarmOnesAndCookedOnes() {
        check.sentence("10 AGE is T LIMIT: of its KIND");
        // 480 of 2400 is 2 tenths, of a COOKED one 480 of 7200 is less than 1.
        OffFirst x = check.laid("c0,0,10;f0,0,1,48,0,0;s0;");
        x.hours(48);
        check.due("smell 2", x.smell(2), 10);
        check.due("smell 3", x.smell(3), 0);
        x.make(0, 2);
        check.due("cooked, smell 0", x.smell(0), 10);
        check.due("cooked, smell 1", x.smell(1), 0);
        x.hours(24);
        check.due("cooked, 720 of 7200", x.smell(1), 10);
    }

    private static void smellTakesToldLines() {
        check.sentence("BY SMELL at LINE T (0 to 20)");
        OffFirst x = laid("f0,0,1,48,0,0;");
        check.due("smell 0", x.smell(0), 9);
        check.due("smell 20", x.smell(20), 1);
        for (int line : new int[] {-1, 21, 22, Integer.MIN_VALUE, Integer.MAX_VALUE}) {
            check.due("smell " + line, x.smell(line), BAD);
        }
    }

    private static void smellIsOfThoseThatAreThere() {
        check.sentence("BY SMELL: of FOODS that are THERE");
        OffFirst x = laid("f0,0,1,48,0,0;".repeat(10) + "s0;");
        for (int i = 0; i < 10; i++) {
            check.due("smell 0", x.smell(0), 10 * (10 - i));
            check.due("one goes", i % 2 == 0 ? x.eat(i) : x.throwOut(i), 0);
        }
        check.due("smell 0 of none", x.smell(0), 0);
        check.due("smell 21 of none", x.smell(21), BAD);
    }

    private static void smellAddsUp() {
        check.sentence("ERRORS in tenths: of each that is good .., of each that is OFF ..");
        // At 10 HOURS: 500 of 1000, good; 500 of 500, OFF.
        for (int slip = 0; slip <= 4; slip++) {
            OffFirst x = laid("f0,0,1,20,0,0;f0,0,1,20,0,0;f0,0,1,10,0,0;s" + slip + ";");
            x.hours(10);
            for (int line = 0; line <= 20; line++) {
                check.due("smell " + line, x.smell(line),
                        2 * tenths(line <= 5, false, slip) + tenths(line <= 10, true, slip));
            }
        }
    }

    private static void lineIsTheLowestOfSeveral() {
        check.sentence("the LINE of fewest, the lowest");
        check.due("a good one at AGE 0", laid("f0,0,1,48,0,0;").line(), 1);
        OffFirst off = laid("f0,0,1,1,0,0;");
        off.hours(1);
        check.due("an OFF one alone", off.line(), 0);
        // 490 of 500, good; 490 of 450, OFF.
        OffFirst ten = check.laid("c39,0,10;f0,0,1,10,0,0;f0,0,1,9,0,0;");
        ten.hours(10);
        check.due("the highest that can be", ten.line(), 10);
        check.due("smell 10", ten.smell(10), 2);
        check.due("smell 11", ten.smell(11), 10);
        check.due("smell 9", ten.smell(9), 10);
        // One good at 1 tenth, nine OFF from 10 tenths on: 2 to 10 are as good.
        OffFirst two = laid("f0,0,1,100,0,0;" + "f0,0,1,10,0,0;".repeat(9));
        two.hours(10);
        check.due("from 2 on", two.line(), 2);
    }

    private static void lineIsNoneIfNoFoodIsThere() {
        check.sentence("line: none (no FOOD is THERE)");
        OffFirst eaten = laid("f0,0,1,48,0,0;f0,0,1,48,0,0;");
        eaten.eat(0);
        check.due("one is THERE", eaten.line(), 1);
        eaten.throwOut(1);
        check.due("none is THERE", eaten.line(), NONE);
    }

    // ---- cut

    private static void cutOfOneToFortyEightHours() {
        check.sentence("A CUT of n HOURS (1 to 48)");
        OffFirst x = laid("f0,0,1,1,0,0;f0,0,1,118,0,0;f0,0,1,119,0,0;");
        check.due("cut 1", x.cut(1, false), 1);
        check.due("cut 47", x.cut(47, false), 1);
        check.due("cut 48: 5928 of 5900 and 5950", x.cut(48, false), 3);
        for (int n : new int[] {0, -1, 49, 50, Integer.MIN_VALUE, Integer.MAX_VALUE}) {
            check.due("cut " + n, x.cut(n, false), BAD);
            check.due("cut " + n + ", opened", x.cut(n, true), BAD);
        }
    }

    private static void cutWarmsByThreeMoreEachHour() {
        check.sentence("in the k-th of them (1 first) a CELL is W and 3 k warm");
        for (int warm = 38; warm <= 87; warm++) {
            int age = 0;
            for (int n = 1; n <= 48; n++) {
                age += 10 + warm + 3 * n;
                OffFirst x = check.laid("c" + warm + ",7,9;f0,0,1," + age / 50 + ",0,0;f0,0,1," + (age / 50 + 1) + ",0,0;");
                check.due("cut " + n + " of " + warm, x.cut(n, false), 1);
            }
        }
        // 24 by 50 and 3 by 300 are 2100, the LIMIT of LIFE 42.
        check.due("at its LIMIT", laid("f0,0,1,42,0,0;").cut(24, false), 1);
        check.due("an HOUR less", laid("f0,0,1,42,0,0;").cut(23, false), 0);
        // From now on: 3 k is of the CUT's HOURS, not of those that went by.
        OffFirst later = laid("f0,0,1,2,0,0;f0,0,1,3,0,0;");
        later.hours(1);
        check.due("50 and 53", later.cut(1, false), 1);
    }

    private static void cutWithTheDoorOpenedOnce() {
        check.sentence("R more in the first one, if the door is opened once");
        for (int more : new int[] {0, 1, 98, 99}) {
            for (int n = 1; n <= 48; n++) {
                int age = 50 * n + 3 * n * (n + 1) / 2;
                String foods = "";
                for (int kind = 0; kind < 2; kind++) {
                    foods += "f0,0,1," + (age + more) / 50 + ",0,0;f0,0,1," + ((age + more) / 50 + 1) + ",0,0;";
                }
                OffFirst x = check.laid("c40," + more + ",10;" + foods);
                check.due("cut " + n + ", opened, R " + more, x.cut(n, true), 5);
                check.due("cut " + n + ", shut, R " + more, x.cut(n, false), age / 50 == (age + more) / 50 ? 5 : 0);
            }
        }
    }

    private static void cutWithTheDoorShut() {
        check.sentence("(else it is shut)");
        StringBuilder always = new StringBuilder("c40,99,10;f0,0,1,3,0,0;f0,0,1,2,0,0;");
        for (int hour = 0; hour < 24; hour++) {
            always.append('o').append(hour).append(';');
        }
        OffFirst x = check.laid(always.toString());
        check.due("told HOURS do not count: 53", x.cut(1, false), 0);
        check.due("109 of 150 and 100", x.cut(2, false), 2);
        check.due("opened once: 152", x.cut(1, true), 3);
        OffFirst once = check.laid(always.toString().replace("f0,0,1,3,0,0;", "f0,0,1,5,0,0;"));
        check.due("not twice: 109 and 99 of 250", once.cut(2, true), 2);
        check.due("267 of 250", once.cut(3, true), 3);
    }

    private static void cutAgesByKind() {
        check.sentence("A CUT: OPENED by twice that, FROZEN by 1");
        OffFirst x = laid("f0,0,1,2,0,0;f1,0,1,2,0,0;f2,0,1,1,0,0;f3,0,1,1,0,0;");
        check.due("cut 1: 53 and 106 of 100", x.cut(1, false), 2);
        check.due("cut 2", x.cut(2, false), 3);
        x.hours(2);
        check.due("FROZEN 49 of 50", x.cut(47, false), 7);
        check.due("FROZEN 50 of 50", x.cut(48, false), 15);
        check.due("COOKED: 100 and 4808 of 4850", x.cut(42, false) & 4, 4);
        check.due("COOKED: 100 and 4643 of 4850", x.cut(41, false) & 4, 0);
    }

    private static void cutIsOfThoseThatAreThereAndOff() {
        check.sentence("FOODS (bits) that are THERE and OFF then");
        OffFirst x = laid("f0,0,1,1,0,0;f0,0,1,1,0,0;f0,0,1,240,0,0;");
        check.due("cut 1", x.cut(1, false), 3);
        x.hours(5);
        check.due("OFF already", x.cut(1, false), 3);
        x.eat(0);
        check.due("an eaten one", x.cut(1, false), 2);
        x.throwOut(1);
        check.due("a thrown one", x.cut(48, true), 0);
        check.due("no HOUR goes by", x.count(6), 5);
        check.due("none ages", x.food(2, 2), 250);
    }

    private static void cutOfEachCell() {
        check.sentence("A CUT: a CELL is W .. warm, R more");
        // 13 and 16 in the cold CELL, 213 in the warm one; 99 more in the cold one.
        OffFirst x = check.laid("c0,99,10;c200,0,10;f0,0,1,2,0,0;f0,1,1,4,0,0;f0,1,1,5,0,0;");
        check.due("cut 1", x.cut(1, false), 2);
        check.due("cut 1, opened: 112, 213", x.cut(1, true), 3);
        x.move(0, 1);
        check.due("where it lies now", x.cut(1, false), 3);
    }

    private static void cutTellsBits() {
        check.sentence("cut: FOODS as bits");
        for (int i = 0; i < 10; i++) {
            OffFirst x = laid("f0,0,1,240,0,0;".repeat(i) + "f0,0,1,1,0,0;" + "f0,0,1,240,0,0;".repeat(9 - i));
            check.due("FOOD " + i, x.cut(1, false), 1 << i);
        }
        check.due("all", laid("f0,0,1,1,0,0;".repeat(10)).cut(1, false), 1023);
        check.due("none", laid("f0,0,1,240,0,0;".repeat(10)).cut(1, false), 0);
    }

    // ---- ill

    private static void illDue(OffFirst x, int i, int above, int below) {
        check.due("ill " + i + ", 0 in HOUR " + x.count(6), x.ill(i, 0), above);
        check.due("ill " + i + ", 1 in HOUR " + x.count(6), x.ill(i, 1), below);
    }

    private static void illFromSixToSeventyTwoHours() {
        check.sentence("EATEN b HOURS ago (6 to 72)");
        OffFirst x = laid("f0,0,1,10,0,0;");
        x.hours(5);
        x.eat(0);
        illDue(x, 0, NONE, NONE);
        for (int ago = 1; ago <= 80; ago++) {
            x.hours(1);
            boolean counts = ago >= 6 && ago <= 72;
            illDue(x, 0, counts ? 1 : NONE, counts ? 1 : NONE);
        }
    }

    private static void illIsDoubledUpToTwentyFourHours() {
        check.sentence("doubled, if b is 24 or less");
        // Weights 5 and 5; the first is eaten an HOUR ahead.
        OffFirst x = laid("f0,0,1,2,0,0;f0,0,1,4,0,0;f3,0,1,240,0,0;");
        x.hours(1);
        x.eat(0);
        x.hours(1);
        x.eat(1);
        x.hours(22);
        for (int ago = 22; ago <= 30; ago++) {
            int first = ago + 1 <= 24 ? 2 : 1;
            int second = ago <= 24 ? 2 : 1;
            boolean alike = first == second;
            illDue(x, 0, 1, alike ? 2 : 3);
            illDue(x, 1, alike ? 1 : 2, alike ? 2 : 3);
            x.hours(1);
        }
    }

    private static void illIsCut() {
        check.sentence("the weight is its 10 AGE by LIMIT then (cut)");
        // FROZEN of LIMIT 50: 1 for each 5 HOURS; the other, of 100, is eaten 30 HOURS ahead.
        for (int age = 30; age <= 70; age++) {
            OffFirst x = laid("f3,0,1,2,0,0;f3,0,1,1,0,0;");
            x.hours(30);
            x.eat(0);
            if (age > 30) {
                x.hours(age - 30);
            }
            x.eat(1);
            x.hours(6);
            // 30 of 100 weighs 3, doubled up to HOUR 54; the other is doubled behind the cut.
            int other = age + 6 - 30 <= 24 ? 6 : 3;
            int own = age / 5 * 2;
            check.due("AGE " + age + ": by its fraction", (long) x.ill(1, 0) * (own + other), (long) x.ill(1, 1) * own);
        }
    }

    private static void illIsCutByTheLimitThen() {
        check.sentence("10 AGE by LIMIT then");
        // COOKED 2425 of 4850 weighs 5; PLAIN 2400 of 12000 weighs 2.
        OffFirst x = check.laid("c15,0,10;f2,0,1,1,0,0;f0,0,1,240,0,0;");
        x.hours(96);
        x.eat(1);
        x.hours(1);
        x.eat(0);
        x.hours(6);
        illDue(x, 0, 5, 7);
        illDue(x, 1, 2, 7);
        x.hours(40);
        illDue(x, 0, 5, 7);
    }

    private static void illIsOfThoseThatWereEaten() {
        check.sentence("of each FOOD that was EATEN");
        OffFirst x = laid("f0,0,1,10,0,0;f0,0,1,10,0,0;f0,0,1,10,0,0;");
        x.hours(5);
        x.eat(0);
        x.throwOut(1);
        x.hours(6);
        illDue(x, 0, 1, 1);
        illDue(x, 1, 0, 1);
        illDue(x, 2, 0, 1);
    }

    private static void illInLowestTerms() {
        check.sentence("odds of a FOOD: by all weights, in lowest terms");
        // Weights 2, 4, 6, 8, doubled or not.
        OffFirst x = laid("f0,0,1,20,0,0;f0,0,1,10,0,0;f1,0,1,40,0,0;f1,0,1,10,0,0;f0,0,1,5,0,0;");
        x.hours(4);
        x.eat(0);
        x.eat(1);
        x.eat(2);
        x.eat(3);
        x.eat(4);
        x.hours(6);
        // 200 of 1000: 2; 200 of 500: 4; 400 of 2000: 2; 400 of 500: 8; 200 of 250: 8.
        illDue(x, 0, 1, 12);
        illDue(x, 1, 1, 6);
        illDue(x, 2, 1, 12);
        illDue(x, 3, 1, 3);
        illDue(x, 4, 1, 3);
        x.hours(19);
        illDue(x, 0, 1, 12);
        illDue(x, 3, 1, 3);
    }

    private static void illIsNoneIfAllAreNought() {
        check.sentence("ILL: none (0 in all)");
        illDue(new OffFirst(), 0, NONE, NONE);
        OffFirst fresh = laid("f3,0,1,1,0,0;f3,0,1,1,0,0;");
        fresh.hours(4);
        fresh.eat(0);
        fresh.hours(1);
        fresh.eat(1);
        fresh.hours(5);
        // 40 by 50 is 0; the other weighs 1, but was eaten 5 HOURS ago.
        illDue(fresh, 0, NONE, NONE);
        illDue(fresh, 1, NONE, NONE);
        fresh.hours(1);
        illDue(fresh, 0, 0, 1);
        illDue(fresh, 1, 1, 1);
        OffFirst one = laid("f3,0,1,1,0,0;");
        one.hours(5);
        one.eat(0);
        one.hours(25);
        // 50 by 50 is 1, not doubled any more.
        illDue(one, 0, 1, 1);
        OffFirst thrown = laid("f0,0,1,1,0,0;");
        thrown.hours(9);
        thrown.throwOut(0);
        thrown.hours(10);
        illDue(thrown, 0, NONE, NONE);
    }

    private static void illTakesToldFoodsAndParts() {
        check.sentence("ill: odds, above (part = 0), below (1); BAD");
        OffFirst x = laid("f0,0,1,10,0,0;f0,0,1,10,0,0;");
        x.hours(5);
        x.eat(1);
        x.hours(6);
        illDue(x, 1, 1, 1);
        for (int none : new int[] {-1, 2, 10, Integer.MIN_VALUE, Integer.MAX_VALUE}) {
            illDue(x, none, BAD, BAD);
            check.due("part " + none, x.ill(1, none), BAD);
        }
    }

    private static void illIsBadAheadOfNone() {
        check.sentence("ill: of BAD and NONE the first");
        OffFirst x = new OffFirst();
        check.due("0 in all", x.ill(0, 0), NONE);
        check.due("0 in all, no such FOOD", x.ill(1, 0), BAD);
        check.due("0 in all, no such FOOD", x.ill(-1, 1), BAD);
        check.due("0 in all, no such part", x.ill(0, 2), BAD);
        check.due("0 in all, no such part", x.ill(0, -1), BAD);
    }
}
