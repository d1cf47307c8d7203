import java.math.BigInteger;

/** Promises 25 to 30 at their edges: span, noSpans, law, habit, keep, back. A test of its own for each sentence. */
public final class LawEdgesTest {
    private static final Check check = new Check("LawEdgesTest");
    private static final int BAD = OffFirst.BAD, NO = OffFirst.NO, FULL = OffFirst.FULL;
    private static final int FRONT = 0, OLDEST = 1;
    /** A PLAIN FOOD ages by 50 an HOUR in it: it is OFF behind as many HOURS as its LIFE. */
    private static final String CELL = "c40,0,10;";
    /** By z and k. */
    private static final boolean[][] TAKEN = draws();
    /** By TAKES one is taken in each of the first three EVENINGS, by SPARES none in the first two. */
    private static final int TAKES = drawsBegin(true, true, true), SPARES = drawsBegin(false, false);

    public static void main(String[] args) {
        spanTakesToldWarmthAndHours();
        spanTellsHowMany();
        eightSpansAtMost();
        spanIsBadAheadOfFull();
        noSpansTellsHowManyWere();
        theLawFits();
        theLawIsFromNoughtToForty();
        theLawIsTheLowestThatFitsMost();
        theLawOfNoSpans();
        lawTakesToldWhats();
        habitTakesToldNumbers();
        habitIsOfEvenings();
        habitDraws();
        habitOfTheFront();
        habitOfTheOldest();
        habitOfTheOldestTheLowest();
        habitOfTenForTwentyDays();
        habitTakesOneThatIsThere();
        habitTakesOffOnesToo();
        habitCostsThoseThatWereOffWhenTaken();
        habitCostsThoseThatAreLeft();
        habitRunsOut();
        habitChangesNothing();
        keepTellsHowMany();
        twoKeptAtMost();
        backIsAsKeptLast();
        backTellsHowManyAreLeft();
        backNeedsOneKept();
        keptAreKindCellAndAge();
        keptIsWhetherThere();
        keptIsWhenEaten();
        keptIsTheHour();
        keptIsNotWhatIsTold();
        keptDoesNotChange();
        check.end();
    }

    private static OffFirst laid(String text) {
        return check.laid(CELL + text);
    }

    // ---- span, noSpans, law

    private static void spanTakesToldWarmthAndHours() {
        check.sentence("SPANS: at warmth w (0 to 300) .. in h HOURS (1 to 300)");
        for (int[] told : new int[][] {{0, 1}, {0, 300}, {300, 1}, {300, 300}, {1, 2}, {299, 299}}) {
            check.due("span " + told[0] + ", " + told[1], new OffFirst().span(told[0], told[1]), 1);
        }
        int[][] bad = {{-1, 1}, {301, 1}, {0, 0}, {0, 301}, {0, -1}, {Integer.MIN_VALUE, 1}, {Integer.MAX_VALUE, 1},
            {1, Integer.MIN_VALUE}, {1, Integer.MAX_VALUE}, {-1, 0}, {301, 301}};
        OffFirst x = new OffFirst();
        for (int[] told : bad) {
            check.due("span " + told[0] + ", " + told[1], x.span(told[0], told[1]), BAD);
            check.due("SPANS", x.count(5), 0);
        }
    }

    private static void spanTellsHowMany() {
        check.sentence("span: a SPAN: how many");
        OffFirst x = new OffFirst();
        for (int many = 1; many <= 8; many++) {
            check.due("span", x.span(40, 48), many);
            check.due("SPANS", x.count(5), many);
            check.due("all of them count", x.law(0), many);
        }
    }

    private static void eightSpansAtMost() {
        check.sentence("SPANS (8 at most): FULL");
        OffFirst x = new OffFirst();
        for (int many = 1; many <= 8; many++) {
            x.span(40, 48);
        }
        check.due("the ninth", x.span(30, 40), FULL);
        check.due("once more", x.span(30, 40), FULL);
        check.due("SPANS", x.count(5), 8);
        check.due("FITS", x.law(0), 8);
        check.due("B", x.law(1), 10);
        check.due("noSpans", x.noSpans(), 8);
        check.due("there is room again", x.span(30, 40), 1);
        check.due("B", x.law(1), 30);
    }

    private static void spanIsBadAheadOfFull() {
        check.sentence("span: of BAD and FULL the first");
        OffFirst x = new OffFirst();
        for (int many = 1; many <= 8; many++) {
            x.span(40, 48);
        }
        check.due("full, no such w", x.span(301, 48), BAD);
        check.due("full, no such w", x.span(-1, 48), BAD);
        check.due("full, no such h", x.span(40, 0), BAD);
        check.due("full, no such h", x.span(40, 301), BAD);
        check.due("full", x.span(40, 48), FULL);
    }

    private static void noSpansTellsHowManyWere() {
        check.sentence("noSpans: no SPANS: how many were");
        for (int many = 0; many <= 8; many++) {
            OffFirst x = new OffFirst();
            for (int i = 0; i < many; i++) {
                x.span(40, 48);
            }
            check.due("of " + many, x.noSpans(), many);
            check.due("SPANS", x.count(5), 0);
            check.due("FITS", x.law(0), 0);
            check.due("B", x.law(1), 0);
            check.due("once more", x.noSpans(), 0);
        }
    }

    private static void lawOf(int w, int h, int fits, int b) {
        OffFirst x = new OffFirst();
        x.span(w, h);
        check.due("FITS " + w + ", " + h, x.law(0), fits);
        check.due("B of " + w + ", " + h, x.law(1), b);
    }

    private static void theLawFits() {
        check.sentence("FITS one, if (B and w) h is 2400 or more, and (B and w) times (h less 1) is not");
        lawOf(20, 60, 1, 20);
        lawOf(19, 60, 1, 21);
        lawOf(20, 61, 0, 0);
        lawOf(21, 61, 0, 0);
        for (int w = 0; w <= 300; w++) {
            for (int h = 1; h <= 300; h += w % 7 == 0 ? 1 : 13) {
                int b = 0;
                while (b <= 40 && ((b + w) * h < 2400 || (b + w) * (h - 1) >= 2400)) {
                    b++;
                }
                lawOf(w, h, b <= 40 ? 1 : 0, b <= 40 ? b : 0);
            }
        }
    }

    private static void theLawIsFromNoughtToForty() {
        check.sentence("of B from 0 to 40");
        lawOf(0, 60, 1, 40);
        lawOf(0, 59, 0, 0);
        lawOf(300, 8, 1, 0);
        lawOf(299, 8, 1, 1);
        lawOf(260, 8, 1, 40);
        lawOf(259, 8, 0, 0);
        // Of -1 it would be: 300 less 1 by 8 is not; 343 and 0 by 7 is: none.
        lawOf(300, 7, 0, 0);
        lawOf(300, 1, 0, 0);
    }

    private static void theLawIsTheLowestThatFitsMost() {
        check.sentence("that which FITS most, the lowest: how many; B");
        OffFirst x = new OffFirst();
        // 40, 48 is fitted by 10 and 11; 20, 60 by 20; 21, 60 by 19.
        int[][] told = {{40, 48, 1, 10}, {20, 60, 1, 10}, {21, 60, 1, 10}, {40, 48, 2, 10}, {20, 60, 2, 10}, {20, 60, 3, 20},
            {21, 60, 3, 20}, {40, 48, 3, 10}};
        for (int i = 0; i < told.length; i++) {
            check.due("span", x.span(told[i][0], told[i][1]), i + 1);
            check.due("FITS of " + (i + 1), x.law(0), told[i][2]);
            check.due("B of " + (i + 1), x.law(1), told[i][3]);
        }
    }

    private static void theLawOfNoSpans() {
        check.sentence("LAW: of no SPANS: 0, the lowest");
        check.due("FITS", new OffFirst().law(0), 0);
        check.due("B", new OffFirst().law(1), 0);
    }

    private static void lawTakesToldWhats() {
        check.sentence("law: how many it FITS (what = 0), B (1); BAD");
        OffFirst x = new OffFirst();
        x.span(40, 48);
        check.due("law 0", x.law(0), 1);
        check.due("law 1", x.law(1), 10);
        for (int what : new int[] {-1, 2, 3, Integer.MIN_VALUE, Integer.MAX_VALUE}) {
            check.due("law " + what, x.law(what), BAD);
        }
    }

    // ---- habit

    private static boolean[][] draws() {
        boolean[][] taken = new boolean[10000][20];
        for (int z = 0; z <= 9999; z++) {
            for (int k = 0; k < 20; k++) {
                BigInteger x = BigInteger.valueOf(7919).multiply(BigInteger.valueOf(z))
                        .add(BigInteger.valueOf(6151).multiply(BigInteger.valueOf(k))).add(BigInteger.ONE);
                BigInteger rest = x.multiply(x).mod(BigInteger.valueOf(65521)).mod(BigInteger.valueOf(3));
                taken[z][k] = rest.signum() != 0;
            }
        }
        return taken;
    }

    /** The lowest z by whose draws it goes like that. */
    private static int drawsBegin(boolean... taken) {
        for (int z = 0; z <= 9999; z++) {
            boolean isSo = true;
            for (int k = 0; k < taken.length; k++) {
                isSo &= TAKEN[z][k] == taken[k];
            }
            if (isSo) {
                return z;
            }
        }
        throw new IllegalStateException("no z draws so");
    }

    private static void habitTakesToldNumbers() {
        check.sentence("HABIT by z (0 to 9999) for n DAYS (1 to 20), FRONT (0), OLDEST (1); BAD");
        OffFirst x = laid("f0,0,9,1,0,0;");
        for (int z : new int[] {0, 9999}) {
            for (int n : new int[] {1, 20}) {
                for (int rule : new int[] {FRONT, OLDEST}) {
                    check.due("habit " + z + ", " + n + ", " + rule, x.habit(z, n, rule), 9);
                }
            }
        }
        for (int bad : new int[] {Integer.MIN_VALUE, -1, 10000, Integer.MAX_VALUE}) {
            check.due("habit " + bad + ", 1, 0", x.habit(bad, 1, 0), BAD);
            check.due("habit 0, " + bad + ", 0", x.habit(0, bad, 0), BAD);
            check.due("habit 0, 1, " + bad, x.habit(0, 1, bad), BAD);
        }
        check.due("habit 0, 0, 0", x.habit(0, 0, 0), BAD);
        check.due("habit 0, 21, 0", x.habit(0, 21, 0), BAD);
        check.due("habit 0, 1, 2", x.habit(0, 1, 2), BAD);
    }

    private static void habitIsOfEvenings() {
        check.sentence("in each of the next n EVENINGS (from the one that is now on)");
        for (int hour = 0; hour <= 48; hour++) {
            int first = hour <= 18 ? 18 : hour <= 42 ? 42 : 66;
            for (int n = 1; n <= 2; n++) {
                int last = first + 24 * (n - 1);
                OffFirst x = laid("f0,0,5," + last + ",0,0;f0,0,9," + (last + 1) + ",0,0;");
                Check.goBy(x, hour);
                check.due(n + " EVENINGS from HOUR " + hour, x.habit(SPARES, n, FRONT), 5);
            }
        }
        OffFirst far = check.laid("c0,0,10;f0,0,5,94,0,0;f0,0,9,95,0,0;");
        far.eat(1);
        // 18 and 19 by 24 are 474: more than 470.
        int z = drawsBegin(false, false, false, false);
        check.due("till the last of 20", far.habit(z, 20, FRONT), leftBy(z, 20, 1) * 5);
    }

    /** How many of some FOODS are not taken ahead of the last EVENING. */
    private static int leftBy(int z, int n, int foods) {
        int left = foods;
        for (int k = 0; k < n - 1; k++) {
            left -= TAKEN[z][k] ? 1 : 0;
        }
        return Math.max(left, 0);
    }

    private static void habitDraws() {
        check.sentence("((x times x) modulo 65521) modulo 3 is not 0, x being 7919 z, 6151 k and 1 together");
        for (int n = 1; n <= 20; n++) {
            // 10 an HOUR, 5 HOURS for each of LIFE: ten that are OFF on the last EVENING, not on the one ahead of it.
            String text = "c0,0,10;" + ("f0,0,1," + (18 + 24 * (n - 1)) / 5 + ",0,0;").repeat(10);
            OffFirst x = check.laid(text);
            for (int z = 0; z <= 9999; z++) {
                if (z % 200 == 199) {
                    x = check.laid(text);
                }
                int due = leftBy(z, n, 10);
                int front = x.habit(z, n, FRONT);
                int oldest = x.habit(z, n, OLDEST);
                if (front != due || oldest != due) {
                    check.due("habit " + z + ", " + n + ", 0", front, due);
                    check.due("habit " + z + ", " + n + ", 1", oldest, due);
                }
            }
        }
    }

    private static void habitOfTheFront() {
        check.sentence("by FRONT (0) the last one (highest)");
        // All are OFF on the second EVENING; one is taken on the first.
        OffFirst x = laid("f0,0,1,20,0,0;f0,0,2,20,0,0;f0,0,4,30,0,0;");
        check.due("the highest", x.habit(TAKES, 2, FRONT), 3);
        x.eat(2);
        check.due("the highest that is THERE", x.habit(TAKES, 2, FRONT), 1);
        OffFirst ten = laid("f0,0,1,20,0,0;".repeat(9) + "f0,0,50,20,0,0;");
        check.due("FOOD 9", ten.habit(TAKES, 2, FRONT), 9);
        OffFirst first = laid("f0,0,50,20,0,0;");
        check.due("FOOD 0", first.habit(TAKES, 2, FRONT), 0);
    }

    private static void habitOfTheOldest() {
        check.sentence("by OLDEST (1) that whose AGE by LIMIT is greatest");
        check.due("the oldest", laid("f0,0,1,30,0,0;f0,0,2,20,0,0;f0,0,4,25,0,0;").habit(TAKES, 2, OLDEST), 5);
        // 900 of 950 is less than 1800 of 1850, and more than 1800 of 1950.
        check.due("by its LIMIT", laid("f0,0,1,19,0,0;f1,0,2,37,0,0;").habit(TAKES, 2, OLDEST), 1);
        check.due("by its LIMIT", laid("f0,0,1,19,0,0;f1,0,2,39,0,0;").habit(TAKES, 2, OLDEST), 2);
        check.due("not by its AGE", laid("f1,0,1,200,0,0;f0,0,2,20,0,0;").habit(TAKES, 2, OLDEST), 0);
        // As the EVENING begins: FROZEN 18 of 50 is more than 900 of 2550, and less than 900 of 2050.
        int z = drawsBegin(true, false);
        check.due("a frozen one", laid("f0,0,1,51,0,0;f3,0,2,1,0,0;").habit(z, 3, OLDEST), 1);
        check.due("a frozen one", laid("f0,0,1,41,0,0;f3,0,2,1,0,0;").habit(z, 3, OLDEST), 2);
    }

    private static void habitOfTheOldestTheLowest() {
        check.sentence("by OLDEST .. (of several the lowest)");
        check.due("alike", laid("f0,0,1,20,0,0;f0,0,2,20,0,0;f0,0,4,20,0,0;").habit(TAKES, 2, OLDEST), 6);
        check.due("alike by their LIMITS", laid("f1,0,1,40,0,0;f0,0,2,20,0,0;").habit(TAKES, 2, OLDEST), 2);
        check.due("alike by their LIMITS", laid("f0,0,1,20,0,0;f1,0,2,40,0,0;").habit(TAKES, 2, OLDEST), 2);
    }

    private static void habitOfTenForTwentyDays() {
        check.sentence("HABIT for 20 DAYS: of ten FOODS the oldest, or the last one");
        // OFF on the twentieth EVENING (4740), not on the one ahead of it (4500); from the oldest on: 9, 8, .. 0.
        String text = "c0,0,10;f0,0,1,94,0,0;f0,0,2,94,0,0;f0,0,3,93,0,0;f0,0,4,93,0,0;f0,0,5,93,0,0;f0,0,6,92,0,0;"
                + "f0,0,7,92,0,0;f0,0,8,92,0,0;f0,0,9,91,0,0;f0,0,10,91,0,0;";
        int[] byAge = {9, 10, 6, 7, 8, 3, 4, 5, 1, 2};
        int[] byPlace = {10, 9, 8, 7, 6, 5, 4, 3, 2, 1};
        OffFirst x = check.laid(text);
        for (int z = 0; z <= 9999; z++) {
            if (z % 200 == 199) {
                x = check.laid(text);
            }
            int taken = 10 - leftBy(z, 20, 10);
            if (taken < 10) {
                check.due("habit " + z + ", 20, 0", x.habit(z, 20, FRONT), sumFrom(byPlace, taken));
                check.due("habit " + z + ", 20, 1", x.habit(z, 20, OLDEST), sumFrom(byAge, taken));
            }
        }
        OffFirst two = laid("f0,0,1,20,0,0;".repeat(9) + "f0,0,50,21,0,0;");
        check.due("the youngest of ten", two.habit(TAKES, 2, OLDEST), 58);
        OffFirst other = laid("f0,0,1,21,0,0;".repeat(9) + "f0,0,50,20,0,0;");
        check.due("the oldest of ten", other.habit(TAKES, 2, OLDEST), 9);
    }

    private static int sumFrom(int[] coins, int from) {
        int sum = 0;
        for (int i = from; i < coins.length; i++) {
            sum += coins[i];
        }
        return sum;
    }

    private static void habitTakesOneThatIsThere() {
        check.sentence("in each one FOOD that is THERE is taken");
        OffFirst x = laid("f0,0,1,20,0,0;f0,0,2,20,0,0;f0,0,4,20,0,0;f0,0,8,20,0,0;");
        x.eat(3);
        x.throwOut(0);
        check.due("front", x.habit(TAKES, 2, FRONT), 2);
        check.due("oldest", x.habit(TAKES, 2, OLDEST), 4);
        check.due("none is taken", x.habit(SPARES, 2, FRONT), 6);
        // Two EVENINGS, two FOODS: OFF on the third.
        OffFirst two = laid("f0,0,1,50,0,0;f0,0,2,50,0,0;f0,0,4,50,0,0;");
        check.due("front, one by one", two.habit(TAKES, 3, FRONT), 1);
        check.due("oldest, one by one", two.habit(TAKES, 3, OLDEST), 4);
    }

    private static void habitTakesOffOnesToo() {
        check.sentence("one FOOD that is THERE is taken, OFF or not");
        check.due("the OFF one is in front", laid("f0,0,1,20,0,0;f0,0,2,1,0,0;").habit(TAKES, 2, FRONT), 3);
        check.due("the OFF one is the oldest", laid("f0,0,1,20,0,0;f0,0,2,1,0,0;").habit(TAKES, 2, OLDEST), 3);
    }

    private static void habitCostsThoseThatWereOffWhenTaken() {
        check.sentence("COST: the coin of those that were OFF when taken");
        for (int rule = FRONT; rule <= OLDEST; rule++) {
            check.due("OFF as the EVENING begins", laid("f0,0,5,18,0,0;").habit(TAKES, 1, rule), 5);
            check.due("the door ahead of it", check.laid("c40,50,9;o17;f0,0,5,19,0,0;").habit(TAKES, 1, rule), 5);
            check.due("the door in its HOUR", check.laid("c40,50,9;o18;f0,0,5,19,0,0;").habit(TAKES, 1, rule), 0);
            check.due("not OFF yet", laid("f0,0,5,19,0,0;").habit(TAKES, 1, rule), 0);
            check.due("not OFF when taken", laid("f0,0,5,19,0,0;").habit(TAKES, 2, rule), 0);
            check.due("OFF when taken, and once", laid("f0,0,5,18,0,0;").habit(TAKES, 3, rule), 5);
        }
    }

    private static void habitCostsThoseThatAreLeft() {
        check.sentence("COST: or are THERE and OFF when the last EVENING's was taken");
        for (int n = 1; n <= 2; n++) {
            int last = 18 + 24 * (n - 1);
            check.due("OFF then", laid("f0,0,5," + last + ",0,0;").habit(SPARES, n, FRONT), 5);
            check.due("OFF an HOUR later", laid("f0,0,5," + (last + 1) + ",0,0;").habit(SPARES, n, FRONT), 0);
        }
        // The last EVENING counts, be one taken then or not.
        int z = drawsBegin(true, false, false);
        check.due("the last draws none", laid("f0,0,5,60,0,0;f0,0,9,240,0,0;").habit(z, 3, FRONT), 5);
        check.due("the last draws one", laid("f0,0,5,60,0,0;f0,0,9,240,0,0;").habit(TAKES, 3, OLDEST), 0);
        check.due("left and taken together", laid("f0,0,5,1,0,0;f0,0,9,1,0,0;f0,0,20,1,0,0;").habit(TAKES, 1, FRONT), 34);
    }

    private static void habitRunsOut() {
        check.sentence("HABIT: of none that is THERE none is taken");
        OffFirst x = laid("f0,0,5,1,0,0;");
        check.due("one for 20 DAYS", x.habit(TAKES, 20, FRONT), 5);
        check.due("one for 20 DAYS", x.habit(TAKES, 20, OLDEST), 5);
        x.eat(0);
        check.due("none for 20 DAYS", x.habit(TAKES, 20, FRONT), 0);
        check.due("none for 20 DAYS", x.habit(TAKES, 20, OLDEST), 0);
    }

    private static void habitChangesNothing() {
        check.sentence("HABIT: nothing is taken in fact");
        OffFirst x = laid("f0,0,5,1,0,0;");
        x.habit(TAKES, 20, FRONT);
        check.due("THERE", x.count(7), 1);
        check.due("HOUR", x.count(6), 0);
        check.due("AGE", x.food(0, 2), 0);
    }

    // ---- keep, back

    private static void keepTellsHowMany() {
        check.sentence("keep: KEPT: how many");
        OffFirst x = new OffFirst();
        check.due("keep", x.keep(), 1);
        check.due("KEPT", x.count(9), 1);
        check.due("keep", x.keep(), 2);
        check.due("KEPT", x.count(9), 2);
    }

    private static void twoKeptAtMost() {
        check.sentence("KEPT: 2 at most: FULL");
        OffFirst x = new OffFirst();
        x.hours(1);
        x.keep();
        x.hours(1);
        x.keep();
        x.hours(1);
        check.due("the third", x.keep(), FULL);
        check.due("KEPT", x.count(9), 2);
        check.due("back", x.back(), 1);
        check.due("the second stays", x.count(6), 2);
        check.due("there is room again", x.keep(), 2);
        check.due("back", x.back(), 1);
        check.due("back", x.back(), 0);
        check.due("the first stays", x.count(6), 1);
    }

    private static void backIsAsKeptLast() {
        check.sentence("back: as KEPT last");
        OffFirst x = new OffFirst();
        x.hours(1);
        x.keep();
        x.hours(2);
        x.keep();
        x.hours(4);
        check.due("back", x.back(), 1);
        check.due("HOUR", x.count(6), 3);
        check.due("AGE", x.food(0, 2), 150);
        check.due("back", x.back(), 0);
        check.due("HOUR", x.count(6), 1);
        check.due("AGE", x.food(0, 2), 50);
        x.hours(9);
        x.keep();
        x.hours(9);
        x.back();
        check.due("kept in its place", x.count(6), 10);
    }

    private static void backTellsHowManyAreLeft() {
        check.sentence("back: (it is KEPT no more then): how many are left");
        OffFirst x = new OffFirst();
        x.keep();
        check.due("back", x.back(), 0);
        check.due("KEPT", x.count(9), 0);
        x.keep();
        x.keep();
        check.due("back", x.back(), 1);
        check.due("KEPT", x.count(9), 1);
        check.due("back", x.back(), 0);
        check.due("KEPT", x.count(9), 0);
    }

    private static void backNeedsOneKept() {
        check.sentence("back: NO");
        OffFirst x = new OffFirst();
        x.hours(5);
        check.due("back", x.back(), NO);
        check.due("HOUR", x.count(6), 5);
        x.keep();
        x.hours(5);
        x.back();
        x.hours(7);
        check.due("back", x.back(), NO);
        check.due("HOUR", x.count(6), 12);
        check.due("AGE", x.food(0, 2), 600);
    }

    private static void keptAreKindCellAndAge() {
        check.sentence("KEPT are FOODS (KIND, CELL, AGE)");
        OffFirst x = check.laid("c40,0,10;c40,0,10;" + "f0,0,1,9,0,0;".repeat(10));
        for (int i = 0; i < 10; i++) {
            x.hours(1);
            if (i % 4 > 0) {
                x.make(i, i % 4);
            }
            if (i % 3 == 0) {
                x.move(i, 1);
            }
        }
        int[] ages = new int[10];
        for (int i = 0; i < 10; i++) {
            ages[i] = x.food(i, 2);
        }
        x.keep();
        for (int i = 0; i < 10; i++) {
            x.make(i, i % 4 == 3 ? 0 : 3);
            x.move(i, i % 3 == 0 ? 0 : 1);
        }
        x.hours(9);
        x.back();
        for (int i = 0; i < 10; i++) {
            check.due("KIND of " + i, x.food(i, 0), i % 4);
            check.due("CELL of " + i, x.food(i, 1), i % 3 == 0 ? 1 : 0);
            check.due("AGE of " + i, x.food(i, 2), ages[i]);
        }
    }

    private static void keptIsWhetherThere() {
        check.sentence("KEPT are FOODS (whether THERE)");
        OffFirst x = laid("f0,0,1,9,0,0;".repeat(4));
        x.eat(1);
        x.throwOut(2);
        x.keep();
        x.eat(0);
        x.throwOut(3);
        x.back();
        int[] fates = {0, 1, 2, 0};
        for (int i = 0; i < 4; i++) {
            check.due("fate of " + i, x.food(i, 4), fates[i]);
        }
        check.due("THERE", x.count(7), 2);
        check.due("it can be eaten again", x.eat(0), 0);
        check.due("it is eaten", x.eat(1), NO);
    }

    private static void keptIsWhenEaten() {
        check.sentence("KEPT are FOODS (EATEN when)");
        OffFirst x = laid("f0,0,1,9,0,0;f0,0,1,9,0,0;");
        x.hours(4);
        x.eat(0);
        x.hours(2);
        x.keep();
        x.eat(1);
        x.hours(20);
        check.due("22 HOURS ago", x.ill(0, 1) > 1 ? 1 : 0, 1);
        x.back();
        x.hours(3);
        check.due("5 HOURS ago", x.ill(0, 0), OffFirst.NONE);
        x.hours(1);
        check.due("6 HOURS ago", x.ill(0, 0), 1);
        check.due("the other is not eaten", x.ill(1, 0), 0);
        // Eaten anew, later than it was ahead of back.
        x.eat(1);
        x.hours(5);
        check.due("5 HOURS ago", x.ill(1, 0), 0);
        x.hours(1);
        check.due("6 HOURS ago", x.ill(1, 0) > 0 ? 1 : 0, 1);
    }

    private static void keptIsTheHour() {
        check.sentence("KEPT are .. the HOUR");
        OffFirst x = check.laid("c40,5,9;o3;f0,0,1,240,0,0;");
        x.hours(3);
        x.keep();
        Check.goBy(x, 99996);
        check.due("the last HOUR", x.hours(1), NO);
        x.back();
        check.due("HOUR", x.count(6), 3);
        x.hours(1);
        check.due("AGE behind the door's HOUR", x.food(0, 2), 205);
    }

    private static void keptIsNotWhatIsTold() {
        check.sentence("KEPT are FOODS, the HOUR: no more");
        OffFirst x = laid("f0,0,1,9,0,0;");
        x.span(40, 48);
        x.keep();
        x.span(40, 48);
        Check.write(x, "o1;");
        int bytes = x.count(8);
        x.back();
        check.due("SPANS", x.count(5), 2);
        check.due("bytes", x.count(8), bytes);
        x.keep();
        x.noSpans();
        x.wipe();
        x.back();
        check.due("SPANS", x.count(5), 0);
        check.due("bytes", x.count(8), 0);
    }

    private static void keptDoesNotChange() {
        check.sentence("KEPT: what is done later changes nothing in it");
        OffFirst x = laid("f0,0,1,9,0,0;f0,0,1,9,0,0;");
        x.hours(2);
        x.keep();
        x.hours(1);
        x.make(0, 2);
        x.keep();
        x.eat(0);
        x.throwOut(1);
        x.hours(50);
        x.back();
        check.due("KIND", x.food(0, 0), 2);
        check.due("AGE", x.food(0, 2), 150);
        check.due("THERE", x.count(7), 2);
        x.eat(0);
        x.hours(5);
        x.back();
        check.due("KIND", x.food(0, 0), 0);
        check.due("AGE", x.food(0, 2), 100);
        check.due("THERE", x.count(7), 2);
        check.due("HOUR", x.count(6), 2);
    }
}
