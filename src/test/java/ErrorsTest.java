import java.math.BigInteger;

/** Promises 20 to 31: ERRORS, the LINE, a CUT, ILL, SPANS, the LAW, HABIT, what is KEPT. */
public final class ErrorsTest {
    private static final Check check = new Check("ErrorsTest");
    private static final int BAD = OffFirst.BAD, NO = OffFirst.NO, FULL = OffFirst.FULL, NONE = OffFirst.NONE;
    private static final String CELL = "c40,0,9;";

    public static void main(String[] args) {
        print();
        smellAndLine();
        slips();
        lineOfSeveral();
        cut();
        cutOfCells();
        ill();
        illNone();
        spansAndLaw();
        lawEdges();
        habit();
        habitOldest();
        habitBad();
        habitDraws();
        keepAndBack();
        keepEdges();
        check.end();
    }

    private static void printDue(OffFirst x, int thrown, int eaten) {
        check.due("print 0 in hour " + x.count(6), x.print(0), thrown);
        check.due("print 1 in hour " + x.count(6), x.print(1), eaten);
    }

    private static void print() {
        OffFirst x = check.laid(CELL + "f0,0,1,240,1,0;f0,0,1,20,0,0;f0,0,1,20,1,0;f0,0,1,240,0,0;");
        printDue(x, 0, 0);
        x.hours(19);
        printDue(x, 0, 0);
        x.hours(1);
        printDue(x, 0, 2);
        x.hours(3);
        printDue(x, 0, 2);
        x.hours(1);
        printDue(x, 1, 1);
        x.hours(23);
        printDue(x, 1, 1);
        x.hours(1);
        printDue(x, 2, 0);
        x.eat(3);
        printDue(x, 1, 0);
        x.throwOut(0);
        printDue(x, 0, 0);
        check.due("print 2", x.print(2), BAD);
        check.due("print -1", x.print(-1), BAD);
        OffFirst late = check.laid(CELL + "f0,0,1,20,99,0;f3,0,1,240,99,0;");
        for (int day = 0; day < 99; day++) {
            late.hours(24);
        }
        printDue(late, 0, 1);
        late.hours(24);
        printDue(late, 1, 0);
    }

    private static void smellDue(OffFirst x, int line, int upTo5, int upTo10, int above) {
        for (int t = 0; t <= 20; t++) {
            check.due("smell " + t, x.smell(t), t <= 5 ? upTo5 : t <= 10 ? upTo10 : above);
        }
        check.due("line", x.line(), line);
    }

    private static void smellAndLine() {
        // 500 of 1000, good, smells off up to line 5; 500 of 500, off, up to line 10.
        OffFirst x = check.laid(CELL + "f0,0,1,20,0,0;f0,0,1,10,0,0;f0,0,1,1,0,0;s2;");
        x.eat(2);
        x.hours(10);
        smellDue(x, 6, 8 + 2, 2 + 2, 2 + 8);
        check.due("smell 21", x.smell(21), BAD);
        check.due("smell -1", x.smell(-1), BAD);
        x.throwOut(1);
        smellDue(x, 6, 8, 2, 2);
        x.eat(0);
        smellDue(x, NONE, 0, 0, 0);
        check.due("BAD with none there", x.smell(21), BAD);
    }

    private static void slips() {
        for (int s = 0; s <= 4; s++) {
            OffFirst x = check.laid(CELL + "f0,0,1,20,0,0;f0,0,1,10,0,0;s" + s + ";");
            x.hours(10);
            smellDue(x, 6, 10, 2 * s, 10);
        }
    }

    private static void lineOfSeveral() {
        OffFirst young = new OffFirst();
        check.due("smells off at line 0 only", young.line(), 1);
        OffFirst old = check.laid(CELL + "f0,0,1,10,0,0;");
        old.hours(10);
        check.due("an off one alone: the lowest", old.line(), 0);
        old.hours(10);
        check.due("1000 of 500 smells off at line 20", old.smell(20), 1);
        // Two good ones at 9 tenths, one off at 10.
        OffFirst x = check.laid(CELL + "f2,0,1,4,0,0;f2,0,1,4,0,0;f0,0,1,90,0,0;");
        x.hours(90);
        check.due("at 9 tenths", x.smell(9), 19);
        check.due("above 9 tenths", x.smell(10), 3);
        check.due("above 10 tenths", x.smell(11), 11);
        check.due("line", x.line(), 10);
    }

    private static void cut() {
        // PLAIN: 53, 109, 168; OPENED: 106, 218, 336; 41 more, if the door is opened.
        OffFirst x = check.laid("c40,41,9;o0;o1;f0,0,1,3,0,0;f1,0,1,5,0,0;f2,0,1,1,0,0;f3,0,1,1,0,0;");
        check.due("cut 1", x.cut(1, false), 0);
        check.due("cut 2", x.cut(2, false), 0);
        check.due("cut 3", x.cut(3, false), 3);
        check.due("cut 1, opened", x.cut(1, true), 0);
        check.due("cut 2, opened: 150 and 300", x.cut(2, true), 3);
        // 48 by 50 and 3 by 1176: 5928.
        check.due("cut 48", x.cut(48, false), 7);
        check.due("nothing went by", x.food(0, 2), 0);
        check.due("cut 0", x.cut(0, false), BAD);
        check.due("cut 49", x.cut(49, true), BAD);
        check.due("cut -1", x.cut(-1, true), BAD);
        x.hours(2);
        check.due("what they are, a frozen one at 2", x.food(3, 2), 2);
        check.due("off already", x.cut(1, false), 3);
        check.due("frozen: 49 of 50", x.cut(47, false), 7);
        check.due("frozen: 50 of 50", x.cut(48, false), 15);
        x.eat(0);
        x.throwOut(1);
        check.due("those that are there", x.cut(48, false), 12);
        OffFirst far = check.laid(CELL + "f2,0,1,22,0,0;f2,0,1,23,0,0;");
        check.due("5928 of 5900 and of 5950", far.cut(48, true), 1);
    }

    private static void cutOfCells() {
        OffFirst x = check.laid("c0,99,9;c200,0,9;f0,1,1,5,0,0;f0,0,1,5,0,0;f0,0,1,240,0,0;f0,1,1,10,0,0;");
        // 13, 29; 213, 429, 648. With 99 more: 112, 128, 147, 169, 194, 222, 253.
        check.due("cut 1", x.cut(1, false), 0);
        check.due("cut 2", x.cut(2, false), 1);
        check.due("cut 3", x.cut(3, true), 9);
        check.due("cut 6, opened", x.cut(6, true), 9);
        check.due("cut 7, opened", x.cut(7, true), 11);
        check.due("cut 7, shut", x.cut(7, false), 9);
        x.move(0, 0);
        check.due("where it lies now", x.cut(2, false), 0);
    }

    private static void illDue(OffFirst x, int i, int above, int below) {
        check.due("ill " + i + " above in hour " + x.count(6), x.ill(i, 0), above);
        check.due("ill " + i + " below in hour " + x.count(6), x.ill(i, 1), below);
    }

    private static void ill() {
        OffFirst x = check.laid(CELL + "f0,0,1,10,0,0;f0,0,1,10,0,0;f0,0,1,13,0,0;f0,0,1,10,0,0;f0,0,1,10,0,0;");
        x.hours(4);
        x.eat(0);
        x.throwOut(3);
        x.hours(1);
        x.eat(1);
        x.eat(2);
        // Weights: 2000 by 500 is 4, 2500 by 500 is 5, 2500 by 650 is 3.
        x.hours(4);
        illDue(x, 0, NONE, NONE);
        x.hours(1);
        illDue(x, 0, 1, 1);
        illDue(x, 1, 0, 1);
        x.hours(1);
        illDue(x, 0, 1, 3);
        illDue(x, 1, 5, 12);
        illDue(x, 2, 1, 4);
        illDue(x, 3, 0, 1);
        illDue(x, 4, 0, 1);
        x.hours(17);
        illDue(x, 0, 1, 3);
        x.hours(1);
        illDue(x, 0, 1, 5);
        illDue(x, 1, 1, 2);
        illDue(x, 2, 3, 10);
        x.hours(1);
        illDue(x, 0, 1, 3);
        illDue(x, 1, 5, 12);
        x.hours(46);
        illDue(x, 0, 1, 3);
        x.hours(1);
        illDue(x, 0, 0, 1);
        illDue(x, 1, 5, 8);
        illDue(x, 2, 3, 8);
        x.hours(1);
        illDue(x, 1, NONE, NONE);
        check.due("no food 5", x.ill(5, 0), BAD);
        check.due("no food -1", x.ill(-1, 0), BAD);
        check.due("part 2", x.ill(0, 2), BAD);
        check.due("part -1", x.ill(0, -1), BAD);
    }

    private static void illNone() {
        OffFirst x = check.laid(CELL + "f0,0,1,20,0,0;f0,0,1,21,0,0;");
        x.hours(2);
        x.eat(1);
        x.hours(6);
        illDue(x, 1, NONE, NONE);
        check.due("not there any more", x.hours(10), 0);
        x.lay();
        x.hours(2);
        x.eat(0);
        x.eat(1);
        x.hours(6);
        // 100 of 1000 weighs 1, 100 of 1050 nothing.
        illDue(x, 0, 1, 1);
        illDue(x, 1, 0, 1);
        OffFirst off = check.laid("c200,99,9;o1;f1,0,1,1,0,0;f0,0,1,240,0,0;");
        off.hours(3);
        off.eat(0);
        off.eat(1);
        off.hours(30);
        // 2 by 210, 309 and 210: 1458 of 50 weighs 291; 729 of 12000 nothing.
        illDue(off, 0, 1, 1);
        off.lay();
        off.hours(30);
        off.eat(1);
        off.hours(2);
        off.eat(0);
        off.hours(25);
        // 30 HOURS at 210 and 2 by 99: 6498 of 12000 weighs 5; 2 by (32 by 210 and 2 by 99) of 50: 2767.
        illDue(off, 1, 5, 2772);
        illDue(off, 0, 2767, 2772);
    }

    private static void lawDue(OffFirst x, int fitted, int b) {
        check.due("law 0", x.law(0), fitted);
        check.due("law 1", x.law(1), b);
    }

    private static void spansAndLaw() {
        OffFirst x = new OffFirst();
        lawDue(x, 0, 0);
        check.due("span", x.span(30, 40), 1);
        lawDue(x, 1, 30);
        check.due("span", x.span(29, 40), 2);
        lawDue(x, 2, 31);
        check.due("span", x.span(20, 61), 3);
        lawDue(x, 2, 31);
        check.due("span", x.span(40, 48), 4);
        check.due("span", x.span(40, 48), 5);
        // 40, 48: B from 10 to 11; two of those against the other two: the lower B.
        lawDue(x, 2, 10);
        check.due("span", x.span(40, 48), 6);
        lawDue(x, 3, 10);
        check.due("span", x.span(39, 48), 7);
        lawDue(x, 4, 11);
        check.due("span", x.span(300, 8), 8);
        lawDue(x, 5, 11);
        check.due("span: full", x.span(1, 1), FULL);
        check.due("span: BAD ahead of FULL", x.span(301, 1), BAD);
        lawDue(x, 5, 11);
        check.due("law 2", x.law(2), BAD);
        check.due("law -1", x.law(-1), BAD);
        check.due("how many", x.count(5), 8);
        check.due("no spans", x.noSpans(), 8);
        check.due("no spans", x.noSpans(), 0);
        lawDue(x, 0, 0);
        check.due("span", x.span(30, 40), 1);
        lawDue(x, 1, 30);
    }

    private static void lawOf(int w, int h, int fitted, int b) {
        OffFirst x = new OffFirst();
        check.due("span " + w + ", " + h, x.span(w, h), 1);
        lawDue(x, fitted, b);
    }

    private static void lawEdges() {
        lawOf(0, 60, 1, 40);
        lawOf(0, 59, 0, 0);
        lawOf(20, 61, 0, 0);
        lawOf(20, 60, 1, 20);
        lawOf(300, 8, 1, 0);
        lawOf(299, 8, 1, 1);
        lawOf(300, 7, 0, 0);
        lawOf(0, 300, 1, 8);
        lawOf(300, 300, 0, 0);
        lawOf(300, 1, 0, 0);
        OffFirst x = new OffFirst();
        check.due("span -1", x.span(-1, 1), BAD);
        check.due("span 301", x.span(301, 1), BAD);
        check.due("span of 0", x.span(1, 0), BAD);
        check.due("span of 301", x.span(1, 301), BAD);
        check.due("none came", x.count(5), 0);
        check.due("span 0, 1", x.span(0, 1), 1);
        check.due("span 300, 300", x.span(300, 300), 2);
    }

    /** By z 0 one is taken on the first evening and on the fifth: 1, 41487, 10299, 37479, 57506 modulo 3. */
    private static void habit() {
        OffFirst x = check.laid(CELL + "f0,0,1,19,0,0;f0,0,2,20,0,0;f0,0,4,240,0,0;");
        check.due("front: the good one is taken", x.habit(0, 1, 0), 0);
        check.due("front: two are off", x.habit(0, 2, 0), 3);
        check.due("front, on the fifth evening", x.habit(0, 5, 0), 3);
        check.due("oldest: one is off", x.habit(0, 2, 1), 2);
        check.due("oldest, on the fifth evening", x.habit(0, 5, 1), 2);
        check.due("nothing is taken in fact", x.count(7), 3);
        x.throwOut(2);
        check.due("front: the last one there", x.habit(0, 2, 0), 1);
        x.hours(18);
        check.due("the evening that is now on", x.habit(0, 2, 0), 1);
        x.hours(1);
        // FOOD 0 is off now, FOOD 1 as the evening begins.
        check.due("off when taken", x.habit(0, 1, 0), 3);
        x.eat(0);
        x.eat(1);
        check.due("none there", x.habit(0, 20, 0), 0);
        check.due("none there", x.habit(0, 20, 1), 0);
    }

    private static void habitOldest() {
        // 18 HOURS: as old by their limits, the lowest is taken.
        OffFirst x = check.laid(CELL + "f0,0,1,20,0,0;f1,0,2,40,0,0;f2,0,8,1,0,0;");
        check.due("of several the lowest", x.habit(0, 2, 1), 2);
        OffFirst other = check.laid(CELL + "f1,0,2,40,0,0;f0,0,1,20,0,0;f2,0,8,1,0,0;");
        check.due("of several the lowest", other.habit(0, 2, 1), 1);
        check.due("front", other.habit(0, 2, 0), 3);
        // 4850 by 50 is 97 HOURS: off on the fifth evening (114), not on the fourth (90).
        check.due("front of four", other.habit(0, 4, 0), 3);
        OffFirst cooked = check.laid(CELL + "f2,0,8,1,0,0;f0,0,1,240,0,0;");
        check.due("good till the fourth", cooked.habit(0, 4, 0), 0);
        check.due("off when taken on the fifth", cooked.habit(0, 5, 0), 8);
        check.due("oldest: taken on the first", cooked.habit(0, 5, 1), 0);
        // By z 4 one is taken on each of the first EVENINGS: off by then, and all is lost.
        check.holds("z 4 takes three", isTaken(4, 0) && isTaken(4, 1) && isTaken(4, 2));
        OffFirst all = check.laid(CELL + "f0,0,1,1,0,0;f0,0,2,2,0,0;f0,0,4,3,0,0;f0,0,8,4,0,0;");
        check.due("three off ones are taken, one is left", all.habit(4, 3, 1), 15);
        check.due("three off ones are taken, one is left", all.habit(4, 3, 0), 15);
        // By z 4: 18, 42 and 66 HOURS of 60, 50, 70 and 40: the oldest are taken in time but for one.
        OffFirst later = check.laid(CELL + "f0,0,1,60,0,0;f0,0,2,50,0,0;f0,0,4,70,0,0;f0,0,8,40,0,0;");
        check.due("the oldest ahead, the next oldest then", later.habit(4, 3, 1), 1);
        check.due("front: 40, 70, and 50, which is off", later.habit(4, 3, 0), 3);
        // By z 0 a third one is not taken before the sixth evening.
        OffFirst two = check.laid(CELL + "f3,0,8,1,0,0;f3,0,4,2,0,0;");
        check.due("18 of 50 ahead of 18 of 100", two.habit(0, 5, 1), 4);
        check.due("18 of 100 is in front", two.habit(0, 5, 0), 8);
    }

    private static void habitBad() {
        OffFirst x = new OffFirst();
        check.due("z -1", x.habit(-1, 1, 0), BAD);
        check.due("z 10000", x.habit(10000, 1, 0), BAD);
        check.due("n 0", x.habit(0, 0, 0), BAD);
        check.due("n 21", x.habit(0, 21, 0), BAD);
        check.due("rule 2", x.habit(0, 1, 2), BAD);
        check.due("rule -1", x.habit(0, 1, -1), BAD);
        check.due("z 0, n 20", x.habit(0, 20, 1), 0);
        check.due("z 9999, n 20", x.habit(9999, 20, 1) >= 0 ? 1 : 0, 1);
    }

    /** Ten that are off from the last EVENING on: each one that is taken ahead of it is saved. */
    private static void habitDraws() {
        for (int n = 1; n <= 20; n++) {
            // 10 an HOUR: 5 HOURS for each of LIFE.
            int life = (18 + 24 * (n - 1)) / 5;
            OffFirst x = check.laid("c0,0,10;" + ("f0,0,1," + life + ",0,0;").repeat(10));
            for (int z = 0; z < 10000; z += 833 + n) {
                int taken = 0;
                for (int k = 0; k < n - 1; k++) {
                    taken += isTaken(z, k) ? 1 : 0;
                }
                check.due("habit " + z + ", " + n + ", 0", x.habit(z, n, 0), Math.max(10 - taken, 0));
                check.due("habit " + z + ", " + n + ", 1", x.habit(z, n, 1), Math.max(10 - taken, 0));
            }
        }
    }

    private static boolean isTaken(int z, int k) {
        BigInteger x = BigInteger.valueOf(7919).multiply(BigInteger.valueOf(z))
                .add(BigInteger.valueOf(6151).multiply(BigInteger.valueOf(k))).add(BigInteger.ONE);
        return x.multiply(x).mod(BigInteger.valueOf(65521)).mod(BigInteger.valueOf(3)).signum() != 0;
    }

    private static void keepAndBack() {
        OffFirst x = check.laid("c40,0,4;c50,0,3;f0,0,1,10,0,0;f0,0,1,10,0,0;f0,0,1,10,0,0;f1,0,1,10,0,0;");
        check.due("back with nothing kept", x.back(), NO);
        x.hours(4);
        x.eat(0);
        x.hours(1);
        check.due("keep", x.keep(), 1);
        x.hours(2);
        x.move(1, 1);
        x.throwOut(2);
        x.make(3, 2);
        x.span(40, 48);
        check.due("keep", x.keep(), 2);
        check.due("kept", x.count(9), 2);
        check.due("keep: full", x.keep(), FULL);
        x.hours(10);
        x.eat(1);
        x.make(3, 3);
        Check.write(x, "o1;");
        check.due("back", x.back(), 1);
        int[][] second = {{0, 0, 200, 1}, {0, 1, 350, 0}, {0, 0, 350, 2}, {2, 0, 700, 0}};
        foodsDue("behind the first back", x, second);
        check.due("hour", x.count(6), 7);
        check.due("there", x.count(7), 2);
        check.due("kept", x.count(9), 1);
        check.due("the span stays", x.count(5), 1);
        check.due("the text stays", x.count(8), 75);
        check.due("back", x.back(), 0);
        int[][] first = {{0, 0, 200, 1}, {0, 0, 250, 0}, {0, 0, 250, 0}, {1, 0, 500, 0}};
        foodsDue("behind the second back", x, first);
        check.due("hour", x.count(6), 5);
        check.due("there", x.count(7), 3);
        check.due("kept", x.count(9), 0);
        check.due("the span stays", x.count(5), 1);
        check.due("back", x.back(), NO);
        foodsDue("behind NO", x, first);
        x.hours(4);
        check.due("eaten 5 hours ago", x.ill(0, 0), NONE);
        x.hours(1);
        check.due("eaten 6 hours ago, as it was kept", x.ill(0, 0), 1);
    }

    private static void foodsDue(String when, OffFirst x, int[][] foods) {
        int[] what = {0, 1, 2, 4};
        for (int i = 0; i < foods.length; i++) {
            for (int w = 0; w < what.length; w++) {
                check.due(when + ": food " + i + ", " + what[w], x.food(i, what[w]), foods[i][w]);
            }
        }
    }

    private static void keepEdges() {
        OffFirst x = new OffFirst();
        check.due("keep", x.keep(), 1);
        x.hours(5);
        check.due("keep", x.keep(), 2);
        x.hours(5);
        check.due("back", x.back(), 1);
        check.due("hour", x.count(6), 5);
        x.hours(7);
        check.due("keep in its place", x.keep(), 2);
        x.hours(1);
        check.due("keep: full", x.keep(), FULL);
        check.due("back", x.back(), 1);
        check.due("hour", x.count(6), 12);
        check.due("back", x.back(), 0);
        check.due("hour", x.count(6), 0);
        // What is KEPT does not change with what is there.
        x.keep();
        x.eat(0);
        x.keep();
        check.due("back", x.back(), 1);
        check.due("eaten", x.food(0, 4), 1);
        check.due("back", x.back(), 0);
        check.due("there", x.food(0, 4), 0);
        // An eaten one comes back, and can be eaten anew: when it was eaten first is forgotten.
        x.hours(12);
        x.keep();
        x.eat(0);
        x.hours(6);
        check.due("ill", x.ill(0, 0), 1);
        x.back();
        x.hours(5);
        x.eat(0);
        x.hours(1);
        check.due("eaten an hour ago", x.ill(0, 0), NONE);
        x.keep();
        Check.write(x, "c1,1,9;f0,0,1,1,1,1;");
        check.due("lay", x.lay(), 1);
        check.due("nothing kept", x.back(), NO);
    }
}
