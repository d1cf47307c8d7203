/** Promises 1 to 8: a new object, THE TEXT, FAULT, LAID, FOODS, warmth, HOURS. */
public final class FridgesTest {
    private static final Check check = new Check("FridgesTest");
    private static final String CELL = "c40,5,10;";
    private static final String FOOD = "f0,0,9,48,3,0;";

    public static void main(String[] args) {
        constants();
        newObject();
        write();
        wipe();
        faultOfItems();
        faultOfNumbers();
        faultOfTooMany();
        lay();
        layAnew();
        layForgets();
        lastOneCounts();
        food();
        warmth();
        hours();
        hoursEnd();
        count();
        check.end();
    }

    private static void constants() {
        check.due("BAD", OffFirst.BAD, -1);
        check.due("NO", OffFirst.NO, -2);
        check.due("FULL", OffFirst.FULL, -3);
        check.due("NONE", OffFirst.NONE, -4);
    }

    private static void newObject() {
        OffFirst x = new OffFirst();
        int[] counts = {1, 1, 0, 0, 0, 0, 0, 1, 0, 0};
        for (int what = 0; what < counts.length; what++) {
            check.due("new: count " + what, x.count(what), counts[what]);
        }
        int[] food = {0, 0, 0, 2400, 0, 0, 0};
        for (int what = 0; what < food.length; what++) {
            check.due("new: food 0, " + what, x.food(0, what), food[what]);
        }
        check.due("new: no second food", x.food(1, 0), OffFirst.BAD);
        for (int hour = 0; hour < 24; hour++) {
            check.due("new: the door stays shut, hour " + hour, x.warmth(0, hour), 40);
        }
        check.due("new: fault", x.fault(), OffFirst.NONE);
        check.due("new: lay", x.lay(), OffFirst.NO);
        check.due("new: buy", x.buy(), OffFirst.NONE);
        check.due("new: slip 1, smells off", x.smell(0), 9);
        check.due("new: slip 1, smells good", x.smell(1), 1);
        check.due("new: lost", x.lost(48), 9);
        check.due("new: back", x.back(), OffFirst.NO);
        check.due("new: wipe", x.wipe(), 0);
        x.make(0, 3);
        check.due("new: frozen", x.hours(95), 0);
        check.due("new: day 3 is not above the print", x.print(0), 0);
        check.due("new: frozen", x.hours(1), 0);
        check.due("new: day 4 is", x.print(0), 1);

        OffFirst cut = new OffFirst();
        cut.hours(42);
        // 2100, five HOURS at 50, and 3, 6, 9, 12, 15 more: 2395 of 2400.
        check.due("new: a shut cut", cut.cut(5, false), 0);
        check.due("new: 5 more when opened", cut.cut(5, true), 1);
        OffFirst thawed = new OffFirst();
        thawed.make(0, 3);
        thawed.hours(83);
        thawed.make(0, 0);
        thawed.hours(22);
        // 83 and 22 by 100, and twice 10, 40, 3 and 5: 2399 of 2400.
        check.due("new: not 6 more", thawed.cut(1, true), 0);
    }

    private static void write() {
        OffFirst x = new OffFirst();
        check.due("write 0", x.write(0, 99), OffFirst.BAD);
        check.due("write 9", x.write(9, 99), OffFirst.BAD);
        check.due("write -1", x.write(-1, 99), OffFirst.BAD);
        check.due("BAD ones write nothing", x.count(8), 0);
        // Of the eight bytes the lowest three are "o5;"; those above are none of its business.
        check.due("write 3", x.write(3, 0x7a7a7a7a7a6f353bL), 3);
        check.due("the highest first", x.fault(), OffFirst.NONE);
        check.due("write 4", x.write(4, 0x6f32333bL), 7);
        check.due("fault", x.fault(), OffFirst.NONE);
        check.due("write 1, all ones", x.write(1, -1L), 8);
        check.due("fault", x.fault(), 7);

        OffFirst full = new OffFirst();
        for (int i = 1; i <= 49; i++) {
            check.due("write 8, the " + i + "th", full.write(8, 0x6f303b6f30303b6fL), 8 * i);
        }
        check.due("write 7", full.write(7, 0), 399);
        check.due("write 2 into one", full.write(2, 0), OffFirst.FULL);
        check.due("write 8 into one", full.write(8, 0), OffFirst.FULL);
        check.due("write 0 into one", full.write(0, 0), OffFirst.BAD);
        check.due("nothing came", full.count(8), 399);
        check.due("write 1 into one", full.write(1, 0), 400);
        check.due("write 1 into none", full.write(1, 0), OffFirst.FULL);
        check.due("write 9 into none", full.write(9, 0), OffFirst.BAD);
        check.due("wipe", full.wipe(), 400);
        check.due("room again", full.write(8, 0), 8);
    }

    private static void wipe() {
        OffFirst x = check.laid(CELL + "f0,0,9,20,3,0;");
        check.due("wipe", x.wipe(), 23);
        check.due("what is laid stays", x.food(0, 3), 1000);
        check.due("wipe of nothing", x.wipe(), 0);
        check.due("an empty text has no fault", x.fault(), OffFirst.NONE);
        check.due("but is not laid", x.lay(), OffFirst.NO);
        Check.write(x, "o3;");
        check.due("only the new bytes", x.wipe(), 3);
    }

    private static void fault(String text, int want) {
        OffFirst x = new OffFirst();
        Check.write(x, text);
        check.due("fault of " + text, x.fault(), want);
    }

    private static final int NONE = OffFirst.NONE;

    private static void faultOfItems() {
        fault("", NONE);
        fault("o0;", NONE);
        fault("o0", 0);
        fault("o0,", 0);
        fault("o;", 0);
        fault("o", 0);
        fault(";", 0);
        fault("o0;;", 3);
        fault("o0;o", 3);
        fault("o0; ", 3);
        fault(" o0;", 0);
        fault("o 0;", 0);
        fault("o0 ;", 0);
        fault("o-1;", 0);
        fault("o+1;", 0);
        fault("O0;", 0);
        fault("x0;", 0);
        fault("a0;", 0);
        fault("0;", 0);
        fault("o007;", NONE);
        fault("o0007;", 0);
        fault("o000;", NONE);
        fault("o0,0;", 0);
        fault("o0,;", 0);
        fault("o,0;", 0);
        fault("o0;o24;o99;", 3);
        fault("o0;o1;o2;o3;o4;o5;o6;o7;o8;o9;o9;o9;", NONE);
        fault("o5:", 0);
        fault("o5/", 0);
        fault("o/;", 0);
        fault("o:;", 0);
        fault("\u00ef0;", 0);
        fault("o\u00b0;", 0);
        fault("o0\u00bb", 0);
        fault("o0;\u0000", 3);
        fault("o0;\n", 3);
        fault("d1;e1;s1;g1,1;b1,1;c1,1,1;f1,0,1,1,1,1;", NONE);
        fault("d1;e1;s1;g1,1;b1,1;c1,1,1;f1,0,1,1,1,1;x", 39);
        fault("c40,5,10,1;", 0);
        fault("c40,5;", 0);
        fault(CELL + "f0,0,9,48,3;", 9);
        fault(CELL + "f0,0,9,48,3,0,0;", 9);
        fault(CELL + "f0,0,9,48,3,0,0,0;", 9);
        fault(CELL + "f0,0,9,48,3,0", 9);
        fault("d1,1;", 0);
        fault("e1,1;", 0);
        fault("g1;", 0);
        fault("g1,1,1;", 0);
        fault("b1;", 0);
        fault("b1,1,1;", 0);
        fault("s1,1;", 0);
    }

    private static void faultOfNumbers() {
        fault("c0,0,1;", NONE);
        fault("c200,99,10;", NONE);
        fault("c201,0,1;", 0);
        fault("c999,0,1;", 0);
        fault("c0,100,1;", 0);
        fault("c0,0,0;", 0);
        fault("c0,0,11;", 0);
        fault("o23;", NONE);
        fault("o24;", 0);
        fault(FOOD, 0);
        fault(FOOD + CELL, 0);
        fault(CELL + "f0,1,9,48,3,0;" + CELL, 9);
        fault(CELL + CELL + "f0,1,9,48,3,0;", NONE);
        fault(CELL + "f3,0,99,240,99,3;", NONE);
        fault(CELL + "f0,0,0,1,0,0;", NONE);
        fault(CELL + "f4,0,9,48,3,0;", 9);
        fault(CELL + "f0,1,9,48,3,0;", 9);
        fault(CELL + "f0,0,100,48,3,0;", 9);
        fault(CELL + "f0,0,9,0,3,0;", 9);
        fault(CELL + "f0,0,9,241,3,0;", 9);
        fault(CELL + "f0,0,9,48,100,0;", 9);
        fault(CELL + "f0,0,9,48,3,4;", 9);
        fault(CELL + FOOD + "f0,0,9,48,3,4;", 23);
        fault("d1;d15;", NONE);
        fault("d0;", 0);
        fault("d16;", 0);
        fault("e0;e15;", NONE);
        fault("e16;", 0);
        fault("g0,1;g9,99;", NONE);
        fault("g10,1;", 0);
        fault("g0,0;", 0);
        fault("g0,100;", 0);
        fault("b1,1;b99,198;", NONE);
        fault("b0,1;", 0);
        fault("b100,1;", 0);
        fault("b1,0;", 0);
        fault("b1,199;", 0);
        fault("s0;s4;", NONE);
        fault("s5;", 0);
    }

    private static void faultOfTooMany() {
        fault("c1,1,1;".repeat(6), NONE);
        fault("c1,1,1;".repeat(7), 42);
        fault("c1,1,1;".repeat(7) + "x", 42);
        fault("c1,1,1;".repeat(6) + "f0,5,1,1,1,1;", NONE);
        fault("c1,1,1;".repeat(6) + "f0,6,1,1,1,1;", 42);
        fault("c1,1,9;" + "f0,0,1,1,1,1;".repeat(10), NONE);
        fault("c1,1,9;" + "f0,0,1,1,1,1;".repeat(11), 137);
        fault("d1;".repeat(5), NONE);
        fault("d1;".repeat(6), 15);
        fault("e1;".repeat(4), NONE);
        fault("e1;".repeat(5), 12);
        fault("g1,1;".repeat(6), NONE);
        fault("g1,1;".repeat(7), 30);
        fault("b1,1;".repeat(20), NONE);
        fault("s1;".repeat(20), NONE);
        fault("o1;".repeat(133), NONE);
        fault("o1;".repeat(133) + "o", 399);
    }

    private static void layOf(String text, int want) {
        OffFirst x = new OffFirst();
        Check.write(x, text);
        check.due("lay of " + text, x.lay(), want);
        check.due("the text stays", x.count(8), text.length());
    }

    private static void lay() {
        layOf("", OffFirst.NO);
        layOf(CELL, OffFirst.NO);
        layOf(CELL + FOOD, 1);
        layOf(CELL + FOOD + "x", OffFirst.NO);
        layOf("x" + CELL + FOOD, OffFirst.NO);
        layOf("c1,1,2;" + FOOD + FOOD, 2);
        layOf("c1,1,2;" + FOOD + FOOD + FOOD, OffFirst.NO);
        layOf("c1,1,2;c1,1,1;" + FOOD + FOOD + "f0,1,9,48,3,0;", 3);
        layOf("c1,1,2;c1,1,1;" + FOOD + "f0,1,9,48,3,0;f0,1,9,48,3,0;", OffFirst.NO);
        layOf("c1,1,10;" + FOOD.repeat(10), 10);
        layOf("c1,1,9;" + FOOD.repeat(10), OffFirst.NO);
        layOf("o1;d1;e1;g1,1;b1,1;s1;", OffFirst.NO);
    }

    /** A NO changes nothing; a new text takes the place of all that was. */
    private static void layAnew() {
        OffFirst x = check.laid("c40,5,10;c50,6,3;o4;" + FOOD + "f2,1,7,10,2,3;d1;d2;e3;g1,1;b3,4;s0;");
        x.hours(7);
        x.eat(0);
        x.move(1, 0);
        x.keep();
        x.span(40, 48);
        Check.write(x, "x");
        check.due("lay with a fault", x.lay(), OffFirst.NO);
        check.due("fault", x.fault(), x.count(8) - 1);
        int[] stay = {2, 2, 2, 1, 1, 1, 7, 1, x.count(8), 1};
        for (int what = 0; what < stay.length; what++) {
            check.due("behind NO: count " + what, x.count(what), stay[what]);
        }
        // 4 HOURS at 50, one at 56 and two more at 50, and 10 in each.
        check.due("behind NO: age", x.food(1, 2), 7 * 60 + 6);
        check.due("behind NO: cell", x.food(1, 1), 0);
        check.due("behind NO: limit", x.food(1, 3), 5300);
        check.due("behind NO: eaten", x.food(0, 4), 1);
        check.due("behind NO: warmth", x.warmth(1, 4), 56);
        check.due("behind NO: smell without slips", x.smell(1), 0);
        check.due("behind NO: expect", x.expect(1), 3);

        x.wipe();
        Check.write(x, "c10,1,1;f1,0,3,2,1,2;");
        check.due("lay", x.lay(), 1);
        int[] now = {1, 1, 0, 0, 0, 0, 0, 1, 21, 0};
        for (int what = 0; what < now.length; what++) {
            check.due("laid anew: count " + what, x.count(what), now[what]);
        }
        int[] food = {1, 0, 0, 100, 0, 0, 2};
        for (int what = 0; what < food.length; what++) {
            check.due("laid anew: food 0, " + what, x.food(0, what), food[what]);
        }
        check.due("laid anew: the door stays shut", x.warmth(0, 4), 10);
        check.due("laid anew: no second cell", x.warmth(1, 4), OffFirst.BAD);
        check.due("laid anew: expect", x.expect(1), OffFirst.NONE);
        check.due("laid anew: slip 1", x.smell(1), 1);
        check.due("laid anew: no spans", x.law(0), 0);
        check.due("laid anew: back", x.back(), OffFirst.NO);
        x.hours(3);
        x.throwOut(0);
        check.due("lay once more", x.lay(), 1);
        check.due("lay once more: age", x.food(0, 2), 0);
        check.due("lay once more: there", x.food(0, 4), 0);
        check.due("lay once more: hour", x.count(6), 0);
    }

    /** What a text does not tell is as without, whatever was laid ahead of it. */
    private static void layForgets() {
        OffFirst x = check.laid("c40,5,10;c50,5,10;o3;f0,0,9,48,3,0;f0,0,9,48,3,1;d3;d2;e1;g9,1;g1,1;b1,1;s0;");
        x.wipe();
        Check.write(x, "c40,5,10;f0,0,9,48,3,1;f0,0,9,48,3,2;f0,0,9,48,3,2;d1;d2;e0;g3,1;");
        check.due("lay", x.lay(), 3);
        check.due("10 for one", x.expect(1), 10 + 2 * 15);
        check.due("20 for two", x.expect(2), 20 + 15);
        check.due("slip 1", x.smell(1), 3);
        check.due("no food of sort 0", x.plan(1, 0), 1);
        check.due("one eater", x.plan(1, -1), 0);
        x.wipe();
        Check.write(x, "c40,5,10;f0,0,9,48,3,0;e0;");
        check.due("lay", x.lay(), 1);
        check.due("no dishes", x.plan(1, -1), 10);
        check.due("no dishes", x.plan(1, 0), OffFirst.NONE);
        check.due("one food", x.lost(500), 9);
        check.due("one food", x.cut(48, false), 1);
        check.due("one food", x.hours(999), 1);
    }

    private static void lastOneCounts() {
        OffFirst x = check.laid("b50,60;s4;g9,1;" + CELL + FOOD + "b7,9;s2;");
        check.due("the last pack's price", x.expect(1), 7 + 8 * 15);
        check.due("the last price of two", x.expect(2), 9 + 7 * 15);
        check.due("the last slip", x.smell(1), 2);
        OffFirst without = check.laid("g9,1;" + CELL + FOOD);
        check.due("a pack without b", without.expect(1), 10 + 8 * 15);
        check.due("two without b", without.expect(2), 20 + 7 * 15);
        check.due("three without b", without.expect(3), 30 + 6 * 15);
        check.due("without s", without.smell(1), 1);
    }

    private static void food() {
        OffFirst x = check.laid("c40,5,10;c0,0,10;f0,1,1,1,0,3;f1,0,2,2,1,2;f2,1,3,3,2,1;f3,0,4,240,3,0;");
        int[][] now = {
            {0, 1, 0, 50, 0, 0, 3}, {1, 0, 0, 100, 0, 0, 2}, {2, 1, 0, 4950, 0, 0, 1}, {3, 0, 0, 12000, 0, 0, 0},
        };
        for (int i = 0; i < now.length; i++) {
            for (int what = 0; what < now[i].length; what++) {
                check.due("food " + i + ", " + what, x.food(i, what), now[i][what]);
            }
        }
        check.due("food 4", x.food(4, 0), OffFirst.BAD);
        check.due("food -1", x.food(-1, 0), OffFirst.BAD);
        check.due("food 0, -1", x.food(0, -1), OffFirst.BAD);
        check.due("food 0, 7", x.food(0, 7), OffFirst.BAD);
        x.hours(1);
        check.due("plain: 10 and 0", x.food(0, 2), 10);
        check.due("opened: twice 10 and 40", x.food(1, 2), 100);
        check.due("cooked: 10 and 0", x.food(2, 2), 10);
        check.due("frozen: 1", x.food(3, 2), 1);
        check.due("off at its limit", x.food(1, 5), 1);
        check.due("not off below", x.food(0, 5), 0);
        x.eat(0);
        x.throwOut(1);
        check.due("eaten", x.food(0, 4), 1);
        check.due("thrown out", x.food(1, 4), 2);
        check.due("there", x.food(2, 4), 0);
        x.hours(9);
        check.due("an eaten one ages no more", x.food(0, 2), 10);
        check.due("a thrown one ages no more", x.food(1, 2), 100);
        check.due("it is off still", x.food(1, 5), 1);
        check.due("it is in its cell still", x.food(0, 1), 1);
        check.due("it is of its kind still", x.food(1, 0), 1);
    }

    private static void warmth() {
        OffFirst x = check.laid("c40,5,10;c0,99,1;c200,0,1;o0;o23;o23;" + FOOD);
        check.due("opened in hour 0", x.warmth(0, 0), 45);
        check.due("shut in hour 1", x.warmth(0, 1), 40);
        check.due("shut in hour 22", x.warmth(1, 22), 0);
        check.due("opened in hour 23", x.warmth(1, 23), 99);
        check.due("opened in hour 24", x.warmth(0, 24), 45);
        check.due("opened in hour 47", x.warmth(0, 47), 45);
        check.due("0 more", x.warmth(2, 0), 200);
        // 99999 is hour 15 of day 4166, 99983 hour 23 of the day before, 99984 hour 0.
        check.due("the last hour", x.warmth(0, 99999), 40);
        check.due("hour 99983", x.warmth(0, 99983), 45);
        check.due("hour 99984", x.warmth(0, 99984), 45);
        check.due("hour 99985", x.warmth(0, 99985), 40);
        check.due("above the last hour", x.warmth(0, 100000), OffFirst.BAD);
        check.due("ahead of the first", x.warmth(0, -1), OffFirst.BAD);
        check.due("no cell 3", x.warmth(3, 0), OffFirst.BAD);
        check.due("no cell -1", x.warmth(-1, 0), OffFirst.BAD);
        x.hours(5);
        check.due("by the told hour, not from now on", x.warmth(0, 0), 45);
    }

    private static void hours() {
        OffFirst x = check.laid("c40,5,10;o0;f0,0,9,48,3,0;f1,0,9,48,3,0;f2,0,9,48,3,0;f3,0,9,48,3,0;f0,0,9,1,3,0;");
        check.due("hours 1: the one of life 1 is off", x.hours(1), 1);
        int[] opened = {55, 110, 55, 1, 55};
        for (int i = 0; i < opened.length; i++) {
            check.due("behind an opened hour: age " + i, x.food(i, 2), opened[i]);
        }
        check.due("hours 1", x.hours(1), 1);
        int[] shut = {105, 210, 105, 2, 105};
        for (int i = 0; i < shut.length; i++) {
            check.due("behind a shut hour: age " + i, x.food(i, 2), shut[i]);
        }
        check.due("out with it", x.throwOut(4), 1);
        check.due("hours 24: the opened one", x.hours(24), 1);
        int[] day = {1310, 2620, 1310, 26, 105};
        for (int i = 0; i < day.length; i++) {
            check.due("behind a day: age " + i, x.food(i, 2), day[i]);
        }
        check.due("hour", x.count(6), 26);
        check.due("hours 21", x.hours(21), 1);
        check.due("2360 of 2400", x.food(0, 2), 2360);
        check.due("hours 1: the plain one, too", x.hours(1), 2);
        check.due("2410 of 2400", x.food(0, 5), 1);
        check.due("hours 0", x.hours(0), OffFirst.BAD);
        check.due("hours -1", x.hours(-1), OffFirst.BAD);
        check.due("hours 1000", x.hours(1000), OffFirst.BAD);
        check.due("nothing went by", x.count(6), 48);
    }

    private static void hoursEnd() {
        OffFirst x = check.laid("c200,99,1;o0;o1;o2;f1,0,9,240,3,0;");
        for (int i = 1; i <= 100; i++) {
            check.due("hours 999, " + i, x.hours(999), i * 999L * 420 >= 12000 ? 1 : 0);
        }
        check.due("hour", x.count(6), 99900);
        check.due("hours 100", x.hours(100), OffFirst.NO);
        check.due("hours 999", x.hours(999), OffFirst.NO);
        check.due("hours 1000", x.hours(1000), OffFirst.BAD);
        check.due("hour", x.count(6), 99900);
        check.due("hours 99", x.hours(99), 1);
        check.due("the last hour", x.count(6), 99999);
        check.due("hours 1", x.hours(1), OffFirst.NO);
        // 4166 whole days and 15 HOURS: three opened ones in each of 4167 days.
        check.due("age", x.food(0, 2), 2 * (99999L * 210 + 3 * 4167L * 99));
        check.due("an off one", x.offIn(0, 0), 0);
    }

    private static void count() {
        OffFirst x = check.laid("c1,1,5;c1,1,5;c1,1,5;" + FOOD.repeat(4) + "d1;d2;d3;d4;d5;e1;e2;g1,1;g0,1;g0,2;");
        x.hours(30);
        x.eat(1);
        x.throwOut(2);
        x.keep();
        x.span(1, 1);
        x.span(1, 1);
        int[] now = {4, 3, 5, 2, 3, 2, 30, 2, 113, 1};
        for (int what = 0; what < now.length; what++) {
            check.due("count " + what, x.count(what), now[what]);
        }
        check.due("count 10", x.count(10), OffFirst.BAD);
        check.due("count -1", x.count(-1), OffFirst.BAD);
    }
}
