import java.nio.charset.StandardCharsets;

/** Promises 2 to 5 at their edges: THE TEXT, its ITEMS, FAULT, what can be LAID. A test of its own for each sentence. */
public final class TextEdgesTest {
    private static final Check check = new Check("TextEdgesTest");
    private static final int BAD = OffFirst.BAD, NO = OffFirst.NO, FULL = OffFirst.FULL, NONE = OffFirst.NONE;
    private static final String CELL = "c40,5,10;", FOOD = "f0,0,9,48,3,0;";
    /** An ITEM of each letter: what must stand ahead of it, and the ITEM. */
    private static final String[][] ITEMS = {{"", "c40,5,10;"}, {"", "o5;"}, {CELL, FOOD}, {"", "d1;"}, {"", "e1;"},
        {"", "g1,1;"}, {"", "b1,1;"}, {"", "s1;"}};

    public static void main(String[] args) {
        aTextIsBytes();
        aTextIsFourHundredBytesAtMost();
        itemsStandOneBehindTheOther();
        anItemIsALetter();
        numbersAreOfOneToThreeFigures();
        figuresAreNoughtToNine();
        numbersArePartedByCommas();
        aSemicolonStandsBehindEachItem();
        anItemHasItsNumbersAndNoMore();
        numbersOfACell();
        sixCellsAtMost();
        hourOfTheDoor();
        numbersOfAFood();
        cellOfAFoodIsToldAhead();
        tenFoodsAtMost();
        sortsOfADish();
        fiveDishesAtMost();
        sortsOfAnEater();
        fourEatersAtMost();
        numbersOfGuests();
        sixGuestsAtMost();
        numbersOfPacks();
        packsWithoutAndOfSeveral();
        slip();
        slipWithoutAndOfSeveral();
        faultIsTheFirstOne();
        faultIsThePlaceOfTheFirstByte();
        faultIsNone();
        writeTakesOneToEightBytes();
        writeTakesTheLowestBytesTheHighestFirst();
        writeTellsHowLong();
        writeComesWholeOrNotAtAll();
        writeIsBadAheadOfFull();
        wipeTellsHowLongItWas();
        wipeLeavesWhatIsLaid();
        layNeedsATextWithoutFault();
        layNeedsACellAndAFood();
        layNeedsRoom();
        layTellsHowManyFoods();
        layBeginsAnew();
        layForgetsWhatWasTold();
        layForgetsWhatWasFull();
        layLeavesTheText();
        layThatIsRefusedLeavesWhatIsLaid();
        check.end();
    }

    private static void fault(String text, int want) {
        check.due("fault of " + text, Check.written(text).fault(), want);
    }

    /** An ITEM with # for a number: every number of one to three figures is tried. */
    private static void range(String ahead, String item, int least, int most) {
        for (int number = 0; number <= 999; number++) {
            boolean isTold = number >= least && number <= most;
            fault(ahead + item.replace("#", "" + number), isTold ? NONE : ahead.length());
        }
    }

    private static void atMost(String ahead, String item, int most) {
        fault(ahead + item.repeat(most), NONE);
        fault(ahead + item.repeat(most + 1), ahead.length() + most * item.length());
        fault(ahead + item.repeat(most) + "o1;" + item, ahead.length() + most * item.length() + 3);
    }

    // ---- A TEXT

    private static void aTextIsBytes() {
        check.sentence("A TEXT is bytes: each of 256 can be written");
        for (int sign = 0; sign < 256; sign++) {
            OffFirst x = Check.written("o1;" + (char) sign);
            check.due("bytes with " + sign, x.count(8), 4);
            check.due("fault of byte " + sign, x.fault(), 3);
        }
    }

    private static void aTextIsFourHundredBytesAtMost() {
        check.sentence("A TEXT is bytes (400 at most)");
        String text = CELL + FOOD + "o1;".repeat(123) + "o01;o07;";
        check.due("its bytes", text.length(), 400);
        OffFirst x = Check.written(text);
        check.due("bytes", x.count(8), 400);
        check.due("fault", x.fault(), NONE);
        check.due("lay", x.lay(), 1);
        check.due("the last ITEM counts", x.warmth(0, 7), 45);
        check.due("one byte more", x.write(1, ';'), FULL);
        check.due("bytes", x.count(8), 400);
        check.due("fault", x.fault(), NONE);
        OffFirst cut = Check.written(text.substring(0, 399));
        check.due("399 bytes", cut.count(8), 399);
        check.due("the last ITEM is cut off", cut.fault(), 396);
        check.due("the 400th byte", cut.write(1, ';'), 400);
        check.due("fault", cut.fault(), NONE);
    }

    private static void itemsStandOneBehindTheOther() {
        check.sentence("ITEMS one behind the other");
        fault("o1;o2;d1;", NONE);
        for (int sign = 0; sign < 256; sign++) {
            fault("o1;" + (char) sign + "o2;", 3);
        }
        fault(";o1;", 0);
    }

    private static void anItemIsALetter() {
        check.sentence("each a letter");
        String[] numbers = {"1", "1,1", "1,1,1", "1,0,1,1,1,1"};
        String[] letters = {"odes", "gb", "c", "f"};
        for (int sign = 0; sign < 256; sign++) {
            for (int i = 0; i < numbers.length; i++) {
                boolean isTold = letters[i].indexOf(sign) >= 0;
                fault(CELL + (char) sign + numbers[i] + ";", isTold ? NONE : CELL.length());
            }
        }
        fault("1;", 0);
        fault("oo1;", 0);
    }

    private static void numbersAreOfOneToThreeFigures() {
        check.sentence("numbers (one to three figures)");
        for (String[] item : ITEMS) {
            String[] numbers = item[1].substring(1, item[1].length() - 1).split(",");
            for (int i = 0; i < numbers.length; i++) {
                String number = numbers[i];
                for (int figures = 0; figures <= 5; figures++) {
                    numbers[i] = figures == 0 ? "" : ("00000" + number).substring(5 + number.length() - figures);
                    String text = item[0] + item[1].charAt(0) + String.join(",", numbers) + ";";
                    // The number is cut to fewer figures than it needs, but stays allowed, or is allowed with zeros ahead.
                    boolean isTold = figures >= 1 && figures <= 3 && Integer.parseInt(numbers[i]) >= leastOf(item[1], i);
                    fault(text, isTold ? NONE : item[0].length());
                }
                numbers[i] = number;
            }
        }
        fault("o023;", NONE);
        fault("o0023;", 0);
    }

    private static int leastOf(String item, int i) {
        char letter = item.charAt(0);
        return letter == 'd' || letter == 'b' || letter == 'g' && i == 1 || letter == 'c' && i == 2
                || letter == 'f' && i == 3 ? 1 : 0;
    }

    private static void figuresAreNoughtToNine() {
        check.sentence("numbers (figures)");
        for (int sign = 0; sign < 256; sign++) {
            boolean isFigure = sign >= '0' && sign <= '9';
            fault("o" + (char) sign + ";", isFigure ? NONE : 0);
            // Behind a ; the ITEM is over, and what follows is none.
            fault("o1" + (char) sign + ";", isFigure ? NONE : sign == ';' ? 3 : 0);
            fault("o0" + (char) sign + "1;", isFigure && sign <= '2' ? NONE : sign == ';' ? 3 : 0);
        }
    }

    private static void numbersArePartedByCommas() {
        check.sentence("numbers parted by ,");
        for (int sign = 0; sign < 256; sign++) {
            fault("g1" + (char) sign + "2;", sign == ',' ? NONE : 0);
            fault(CELL + "f0,0,9,48,3" + (char) sign + "0;", sign == ',' ? NONE : 9);
        }
        fault("g1,,2;", 0);
        fault("g,1,2;", 0);
        fault("g1,2,;", 0);
        fault("g,1;", 0);
        fault("g1,;", 0);
        fault("g1, 2;", 0);
    }

    private static void aSemicolonStandsBehindEachItem() {
        check.sentence("and ; (behind the last one, too)");
        for (int sign = 0; sign < 256; sign++) {
            fault("o1" + (char) sign, sign == ';' ? NONE : 0);
            fault("o1" + (char) sign + "d1;", sign == ';' ? NONE : 0);
        }
        for (String[] item : ITEMS) {
            String cut = item[0] + item[1].substring(0, item[1].length() - 1);
            fault(cut, item[0].length());
            fault(cut + ",", item[0].length());
            fault(cut + ";", NONE);
            fault(cut + ";;", cut.length() + 1);
            fault(item[0] + item[1].charAt(0), item[0].length());
            fault(item[0] + item[1].charAt(0) + ";", item[0].length());
        }
    }

    private static void anItemHasItsNumbersAndNoMore() {
        check.sentence("each a letter, numbers: as many as told");
        int[] numbers = {3, 1, 6, 1, 1, 2, 2, 1};
        for (int i = 0; i < ITEMS.length; i++) {
            for (int many = 1; many <= 8; many++) {
                String text = ITEMS[i][0] + ITEMS[i][1].charAt(0) + ",1,0,1,1,1,1,1,1".substring(1, 2 * many) + ";";
                boolean isTold = many == numbers[i] && "gb".indexOf(ITEMS[i][1].charAt(0)) < 0;
                fault(text, isTold ? NONE : ITEMS[i][0].length());
            }
        }
        fault("g1,1;b1,1;", NONE);
        fault("g1,1,1;", 0);
        fault("b1,1,1;", 0);
    }

    // ---- ITEMS

    private static void numbersOfACell() {
        check.sentence("cW,R,M: W (0 to 200), R (0 to 99), M (1 to 10)");
        range("", "c#,5,10;", 0, 200);
        range("", "c40,#,10;", 0, 99);
        range("", "c40,5,#;", 1, 10);
    }

    private static void sixCellsAtMost() {
        check.sentence("a CELL: 6 at most, 0, 1, ..");
        atMost("", "c1,1,1;", 6);
        OffFirst x = check.laid("c10,0,9;c20,0,9;c30,0,9;c40,0,9;c50,0,9;c60,0,9;" + FOOD);
        for (int c = 0; c < 6; c++) {
            check.due("warmth " + c, x.warmth(c, 0), 10 + 10 * c);
        }
        check.due("warmth 6", x.warmth(6, 0), BAD);
        check.due("CELLS", x.count(1), 6);
    }

    private static void hourOfTheDoor() {
        check.sentence("oH the door is OPENED in HOUR H (0 to 23) of each day");
        range("", "o#;", 0, 23);
        for (int opened = 0; opened < 24; opened++) {
            OffFirst x = check.laid(CELL + FOOD + "o" + opened + ";");
            for (int hour = 0; hour < 48; hour++) {
                check.due("o" + opened + ": warmth in " + hour, x.warmth(0, hour), hour % 24 == opened ? 45 : 40);
            }
        }
        check.sentence("oH: of these there may be any number");
        fault("o7;".repeat(133), NONE);
        StringBuilder all = new StringBuilder(CELL + FOOD);
        for (int hour = 0; hour < 24; hour++) {
            all.append('o').append(hour).append(";o").append(hour).append(';');
        }
        OffFirst x = check.laid(all.toString());
        for (int hour = 0; hour < 24; hour++) {
            check.due("always opened: " + hour, x.warmth(0, hour), 45);
        }
    }

    private static void numbersOfAFood() {
        check.sentence("fK,C,V,L,P,S: K (0 to 3), V (0 to 99), L (1 to 240), P (0 to 99), S (0 to 3)");
        range(CELL, "f#,0,9,48,3,0;", 0, 3);
        range(CELL, "f0,0,#,48,3,0;", 0, 99);
        range(CELL, "f0,0,9,#,3,0;", 1, 240);
        range(CELL, "f0,0,9,48,#,0;", 0, 99);
        range(CELL, "f0,0,9,48,3,#;", 0, 3);
    }

    private static void cellOfAFoodIsToldAhead() {
        check.sentence("a FOOD in CELL C (told ahead)");
        for (int cells = 0; cells <= 6; cells++) {
            range(CELL.repeat(cells), "f0,#,9,48,3,0;", 0, cells - 1);
        }
        fault(FOOD + CELL, 0);
        fault(CELL + "f0,1,9,48,3,0;" + CELL, 9);
        fault(CELL + FOOD + CELL + "f0,1,9,48,3,0;", NONE);
    }

    private static void tenFoodsAtMost() {
        check.sentence("a FOOD: 10 at most, 0, 1, ..");
        atMost(CELL, FOOD, 10);
        StringBuilder text = new StringBuilder(CELL);
        for (int i = 0; i < 10; i++) {
            text.append("f0,0,").append(i).append(',').append(1 + i).append(",0,0;");
        }
        OffFirst x = check.laid(text.toString());
        for (int i = 0; i < 10; i++) {
            check.due("LIMIT of " + i, x.food(i, 3), 50 + 50 * i);
        }
        check.due("food 10", x.food(10, 3), BAD);
        check.due("FOODS", x.count(0), 10);
    }

    private static void sortsOfADish() {
        check.sentence("dB a DISH of SORTS B (bits; 1 to 15)");
        range("", "d#;", 1, 15);
        // One FOOD of each SORT, OFF on the second evening: a DISH saves the coin of its SORTS.
        String foods = "c40,0,9;f0,0,1,20,0,0;f0,0,2,20,0,1;f0,0,4,20,0,2;f0,0,8,20,0,3;";
        for (int sorts = 1; sorts <= 15; sorts++) {
            check.due("plan of d" + sorts, check.laid(foods + "d" + sorts + ";").plan(2, -1), 15 - sorts);
        }
    }

    private static void fiveDishesAtMost() {
        check.sentence("a DISH: 5 at most, 0, 1, ..");
        atMost("", "d1;", 5);
        OffFirst x = check.laid(CELL + "f0,0,9,240,0,3;d1;d2;d4;d7;d8;e0;");
        check.due("the last of five", x.plan(1, 0), 4);
        check.due("DISHES", x.count(2), 5);
    }

    private static void sortsOfAnEater() {
        check.sentence("eB an EATER won't eat SORTS B (bits; 0 to 15)");
        range("", "e#;", 0, 15);
        for (int bars = 0; bars <= 15; bars++) {
            for (int sort = 0; sort < 4; sort++) {
                OffFirst x = check.laid(CELL + "f0,0,9,240,0," + sort + ";d" + (1 << sort) + ";e" + bars + ";");
                check.due("e" + bars + " with SORT " + sort, x.plan(1, -1), (bars >> sort & 1) * 10);
            }
        }
    }

    private static void fourEatersAtMost() {
        check.sentence("an EATER: 4 at most");
        atMost("", "e1;", 4);
        for (int eaters = 0; eaters <= 4; eaters++) {
            OffFirst x = check.laid(CELL + FOOD + "e0;".repeat(eaters));
            check.due("EATERS", x.count(3), eaters);
            check.due("all of them go hungry", x.plan(1, -1), 10 * eaters);
        }
    }

    private static void numbersOfGuests() {
        check.sentence("gN,W N GUESTS (0 to 9) come by weight W (1 to 99)");
        range("", "g#,1;", 0, 9);
        range("", "g1,#;", 1, 99);
    }

    private static void sixGuestsAtMost() {
        check.sentence("GUESTS: 6 at most");
        atMost("", "g1,1;", 6);
        for (int guests = 1; guests <= 6; guests++) {
            OffFirst x = check.laid(CELL + FOOD + "g1,1;".repeat(guests));
            check.due("told GUESTS", x.count(4), guests);
            check.due("all of them are counted", x.expect(0), 15 * guests);
        }
    }

    private static void numbersOfPacks() {
        check.sentence("bX,Y a PACK costs X (1 to 99), two together Y (1 to 198)");
        range("", "b#,1;", 1, 99);
        range("", "b1,#;", 1, 198);
    }

    private static void packsWithoutAndOfSeveral() {
        check.sentence("bX,Y (10, 20 without; of several the last one counts)");
        String text = CELL + FOOD + "g0,1;";
        int[][] costs = {{0, 10, 20, 30}, {0, 7, 9, 16}, {0, 99, 198, 297}, {0, 1, 1, 2}};
        String[] told = {"", "b7,9;", "b99,198;", "b1,1;"};
        for (int i = 0; i < told.length; i++) {
            for (String ahead : new String[] {"", "b1,1;", "b99,198;b3,4;"}) {
                OffFirst x = check.laid(told[i].isEmpty() ? text : text + ahead + told[i]);
                for (int q = 0; q < 4; q++) {
                    check.due("expect " + q + " behind " + ahead + told[i], x.expect(q), costs[i][q]);
                }
            }
        }
        fault("b1,1;".repeat(80), NONE);
    }

    private static void slip() {
        check.sentence("sS of ten smellings S slip (0 to 4)");
        range("", "s#;", 0, 4);
    }

    private static void slipWithoutAndOfSeveral() {
        check.sentence("sS (1 without; of several the last one counts)");
        check.due("without", check.laid(CELL + FOOD).smell(1), 1);
        for (int s = 0; s <= 4; s++) {
            check.due("s" + s, check.laid(CELL + FOOD + "s" + s + ";").smell(1), s);
            check.due("s4;s0;s" + s, check.laid("s4;s0;" + CELL + FOOD + "s" + s + ";").smell(1), s);
        }
        fault("s1;".repeat(133), NONE);
    }

    // ---- FAULT

    private static void faultIsTheFirstOne() {
        check.sentence("FAULT: of the first ITEM that is not so");
        fault("o24;o24;", 0);
        fault("o1;o24;o25;x", 3);
        fault("o1;x1;o24;", 3);
        fault("c1,1,1;".repeat(7) + "o24;", 42);
        fault("o24;" + "c1,1,1;".repeat(7), 0);
        fault("o1;o1", 3);
        fault("o24;o1", 0);
    }

    private static void faultIsThePlaceOfTheFirstByte() {
        check.sentence("FAULT: the place (from 0 on) of the first byte");
        for (int ahead = 0; ahead <= 132; ahead++) {
            fault("o1;".repeat(ahead) + "o24;", 3 * ahead);
        }
        fault("c40,5,11;", 0);
        fault(CELL + "f0,0,9,48,3,4;", 9);
        fault("o1;".repeat(133) + "o", 399);
    }

    private static void faultIsNone() {
        check.sentence("fault: NONE");
        fault("", NONE);
        for (String[] item : ITEMS) {
            fault(item[0] + item[1], NONE);
        }
        OffFirst x = Check.written("x");
        check.due("a fault", x.fault(), 0);
        x.wipe();
        check.due("wiped", x.fault(), NONE);
    }

    // ---- write, wipe

    private static void writeTakesOneToEightBytes() {
        check.sentence("write: n bytes (1 to 8)");
        for (int n = 1; n <= 8; n++) {
            check.due("write " + n, new OffFirst().write(n, 0), n);
        }
        for (int n : new int[] {0, 9, -1, 10, 16, 64, Integer.MIN_VALUE, Integer.MAX_VALUE}) {
            OffFirst x = Check.written("o1;");
            check.due("write " + n, x.write(n, 0), BAD);
            check.due("bytes", x.count(8), 3);
            check.due("fault", x.fault(), NONE);
        }
    }

    private static void writeTakesTheLowestBytesTheHighestFirst() {
        check.sentence("write: the lowest n bytes of v, the highest of these first");
        byte[] text = (CELL + "c60,9,7;o13;f1,1,77,123,45,2;f3,0,8,240,99,3;").getBytes(StandardCharsets.ISO_8859_1);
        for (int n = 1; n <= 8; n++) {
            for (long above : new long[] {0, -1L, 0x3b3b3b3b3b3b3b3bL}) {
                OffFirst x = new OffFirst();
                for (int from = 0; from < text.length; from += n) {
                    int part = Math.min(n, text.length - from);
                    long v = above;
                    for (int i = 0; i < part; i++) {
                        v = v << 8 | text[from + i];
                    }
                    check.due("write " + part, x.write(part, v), from + part);
                }
                check.due("fault by " + n, x.fault(), NONE);
                check.due("lay by " + n, x.lay(), 2);
                check.due("LIMIT by " + n, x.food(0, 3), 50 * 123);
                check.due("CELL by " + n, x.food(0, 1), 1);
                check.due("warmth by " + n, x.warmth(1, 13), 69);
            }
        }
    }

    private static void writeTellsHowLong() {
        check.sentence("write: come behind THE TEXT: how long it is");
        OffFirst x = new OffFirst();
        int[] by = {1, 8, 3, 5, 2, 7, 4, 6};
        int length = 0;
        for (int round = 0; round < 11; round++) {
            for (int n : by) {
                length += n;
                check.due("write " + n, x.write(n, 0x3b3b3b3b3b3b3b3bL), length);
                check.due("count 8", x.count(8), length);
            }
        }
        check.due("396 of 400", length, 396);
    }

    private static void writeComesWholeOrNotAtAll() {
        check.sentence("write: FULL (nothing comes then)");
        for (int room = 0; room <= 8; room++) {
            for (int n = 1; n <= 8; n++) {
                OffFirst x = Check.written("o1;".repeat(130) + "o0;".substring(0, 2));
                for (int left = 8; left > room; left--) {
                    x.write(1, left == 8 ? ';' : '0');
                }
                int length = 400 - room;
                int fault = x.fault();
                check.due("bytes", x.count(8), length);
                check.due("write " + n + " with room for " + room, x.write(n, 0x3b3b3b3b3b3b3b3bL),
                        n <= room ? length + n : FULL);
                check.due("bytes then", x.count(8), n <= room ? length + n : length);
                if (n > room) {
                    check.due("fault then", x.fault(), fault);
                }
            }
        }
    }

    private static void writeIsBadAheadOfFull() {
        check.sentence("write: of BAD and FULL the first");
        OffFirst x = Check.written("o1;".repeat(132) + "o01;");
        for (int n : new int[] {0, -1, 9, 401, Integer.MAX_VALUE, Integer.MIN_VALUE}) {
            check.due("write " + n, x.write(n, 0), BAD);
        }
        check.due("write 8", x.write(8, 0), FULL);
        check.due("bytes", x.count(8), 400);
        check.due("fault", x.fault(), NONE);
    }

    private static void wipeTellsHowLongItWas() {
        check.sentence("wipe: THE TEXT is empty: how long it was");
        check.due("of nothing", new OffFirst().wipe(), 0);
        check.due("of one", Check.written("x").wipe(), 1);
        OffFirst x = Check.written("o1;".repeat(132) + "xxxx");
        check.due("of 400", x.wipe(), 400);
        check.due("of nothing", x.wipe(), 0);
        check.due("bytes", x.count(8), 0);
        check.due("fault", x.fault(), NONE);
        check.due("there is room again", Check.write(x, "o2;".repeat(133)), 399);
        check.due("and nothing of what was", x.fault(), NONE);
        x.wipe();
        Check.write(x, "o1");
        check.due("a short one behind a long one", x.fault(), 0);
        Check.write(x, ";");
        check.due("a short one behind a long one", x.fault(), NONE);
    }

    private static void wipeLeavesWhatIsLaid() {
        check.sentence("wipe: THE TEXT alone");
        OffFirst x = check.laid("c40,5,10;f2,0,9,48,3,0;f0,0,9,48,3,0;");
        x.hours(3);
        x.span(1, 1);
        x.keep();
        x.wipe();
        check.due("FOODS", x.count(0), 2);
        check.due("AGE", x.food(0, 2), 150);
        check.due("HOUR", x.count(6), 3);
        check.due("SPANS", x.count(5), 1);
        check.due("KEPT", x.count(9), 1);
    }

    // ---- lay

    private static void layOf(String text, int want) {
        check.due("lay of " + text, Check.written(text).lay(), want);
    }

    private static void layNeedsATextWithoutFault() {
        check.sentence("LAID is a TEXT without FAULT (NO else)");
        layOf(CELL + FOOD, 1);
        layOf(CELL + FOOD + "x", NO);
        layOf(CELL + FOOD + "o24;", NO);
        layOf(CELL + FOOD + "o1", NO);
        layOf("o24;" + CELL + FOOD, NO);
        layOf(CELL + FOOD + "d1;".repeat(6), NO);
        layOf(CELL + "f0,1,9,48,3,0;" + FOOD, NO);
    }

    private static void layNeedsACellAndAFood() {
        check.sentence("LAID: of a CELL and a FOOD at least (NO else)");
        layOf("", NO);
        layOf(CELL, NO);
        layOf(CELL.repeat(6), NO);
        layOf("o1;d1;e1;g1,1;b1,1;s1;", NO);
        layOf(FOOD, NO);
        layOf(CELL + FOOD, 1);
    }

    private static void layNeedsRoom() {
        check.sentence("LAID: no more FOODS in a CELL than it has room for (NO else)");
        for (int room = 1; room <= 10; room++) {
            String cell = "c40,5," + room + ";";
            layOf(cell + FOOD.repeat(room), room);
            if (room < 10) {
                layOf(cell + FOOD.repeat(room + 1), NO);
            }
        }
        // Room elsewhere does not help; and the last of six CELLS is looked at, too.
        layOf("c40,5,1;c40,5,9;" + FOOD + FOOD, NO);
        String six = "c40,5,9;".repeat(5) + "c40,5,1;";
        layOf(six + FOOD + "f0,5,9,48,3,0;", 2);
        layOf(six + FOOD + "f0,5,9,48,3,0;f0,5,9,48,3,0;", NO);
    }

    private static void layTellsHowManyFoods() {
        check.sentence("lay: LAID: how many FOODS");
        for (int foods = 1; foods <= 10; foods++) {
            layOf(CELL + FOOD.repeat(foods), foods);
        }
    }

    private static void layBeginsAnew() {
        check.sentence("lay: HOUR 0, all AGES 0, no SPANS, nothing KEPT");
        OffFirst x = check.laid("c40,5,10;c40,5,10;f0,0,9,48,3,0;f1,1,9,48,3,1;f2,0,9,48,3,2;");
        x.hours(40);
        x.make(0, 2);
        x.move(1, 0);
        x.eat(1);
        x.throwOut(2);
        x.span(40, 48);
        x.keep();
        x.hours(10);
        x.keep();
        check.due("lay", x.lay(), 3);
        check.due("HOUR", x.count(6), 0);
        for (int i = 0; i < 3; i++) {
            check.due("AGE of " + i, x.food(i, 2), 0);
            check.due("KIND of " + i, x.food(i, 0), i);
            check.due("CELL of " + i, x.food(i, 1), i % 2);
            check.due("THERE: " + i, x.food(i, 4), 0);
        }
        check.due("SPANS", x.count(5), 0);
        check.due("law", x.law(0), 0);
        check.due("KEPT", x.count(9), 0);
        check.due("back", x.back(), NO);
    }

    private static void layForgetsWhatWasTold() {
        check.sentence("LAID is a TEXT: what it does not tell is as without, whatever was LAID ahead of it");
        OffFirst x = check.laid("c40,5,10;c50,6,10;o3;o4;f0,0,9,48,3,0;f1,1,8,30,9,3;f2,1,7,30,9,1;d1;d2;d3;e1;e3;g9,1;g1,1;"
                + "b1,1;s4;");
        x.hours(20);
        x.eat(2);
        x.wipe();
        Check.write(x, "c40,5,10;f0,0,9,240,3,2;f0,0,9,240,3,1;d1;d8;d2;e0;g3,1;o4;");
        check.due("lay", x.lay(), 2);
        int[] counts = {2, 1, 3, 1, 1, 0, 0, 2, 59, 0};
        for (int what = 0; what <= 9; what++) {
            check.due("count " + what, x.count(what), counts[what]);
        }
        check.due("the door stays shut", x.warmth(0, 3), 40);
        check.due("and is opened", x.warmth(0, 4), 45);
        check.due("no CELL 1", x.warmth(1, 4), BAD);
        check.due("no FOOD 2", x.food(2, 0), BAD);
        check.due("10 for one", x.expect(1), 10 + 2 * 15);
        check.due("20 for two", x.expect(2), 20 + 15);
        check.due("slip 1", x.smell(1), 2);
        check.due("one EATER", x.plan(1, -1), 0);
        check.due("no FOOD of SORT 0, none of SORT 3", x.plan(1, 0), 2);
        x.hours(30);
        check.due("no FOOD was EATEN", x.ill(0, 0), NONE);
        x.wipe();
        Check.write(x, CELL + FOOD);
        check.due("lay", x.lay(), 1);
        check.due("no DISHES, no EATERS", x.plan(1, -1), 0);
        check.due("no GUESTS", x.buy(), NONE);
        check.due("no opened HOUR", x.warmth(0, 4), 40);
        check.due("one FOOD", x.lost(500), 9);
        check.due("one FOOD", x.cut(48, false), 1);
        check.due("one FOOD", x.hours(999), 1);
        Check.write(x, "e0;");
        check.due("lay", x.lay(), 1);
        check.due("no DISHES", x.plan(1, -1), 10);
        check.due("no DISHES", x.plan(1, 0), NONE);
    }

    private static void layForgetsWhatWasFull() {
        check.sentence("LAID: no more FOODS in a CELL than it has room for, of those that are told now");
        OffFirst x = check.laid("c90,0,10;c90,0,10;c0,0,10;" + FOOD + FOOD + "f0,1,9,48,3,0;");
        check.due("the cold CELL", x.lie(1, 30, 0), 2);
        x.wipe();
        Check.write(x, "c90,0,2;c90,0,1;" + FOOD + FOOD);
        check.due("room for two", x.lay(), 2);
        check.due("no cold CELL", x.lie(1, 30, 0), 0);
        check.due("no cold CELL", x.lie(1, 30, -1), 18);
        check.due("room for one", x.move(1, 1), 1);
    }

    private static void layLeavesTheText() {
        check.sentence("lay: (THE TEXT stays)");
        OffFirst x = check.laid(CELL + FOOD);
        check.due("bytes", x.count(8), 23);
        check.due("lay once more", x.lay(), 1);
        Check.write(x, FOOD);
        check.due("lay with a FOOD more", x.lay(), 2);
        Check.write(x, "x");
        check.due("lay with a FAULT", x.lay(), NO);
        check.due("bytes", x.count(8), 38);
        check.due("fault", x.fault(), 37);
    }

    private static void layThatIsRefusedLeavesWhatIsLaid() {
        check.sentence("lay: NO: nothing changes then");
        for (String refused : new String[] {"", "x", "c1,1,1;", "c1,1,1;f0,0,1,1,1,1;f0,0,1,1,1,1;",
            "c9,9,9;o5;f2,0,1,1,0,3;d1;e1;g9,9;b1,1;s4;x"}) {
            OffFirst x = check.laid("c40,5,10;o3;f0,0,9,48,3,0;f1,0,7,48,3,1;d1;e0;g2,1;b3,4;s2;");
            x.hours(3);
            x.keep();
            x.span(1, 1);
            x.wipe();
            Check.write(x, refused);
            check.due("lay of " + refused, x.lay(), NO);
            int[] counts = {2, 1, 1, 1, 1, 1, 3, 2, refused.length(), 1};
            for (int what = 0; what < counts.length; what++) {
                check.due("count " + what, x.count(what), counts[what]);
            }
            check.due("warmth", x.warmth(0, 3), 45);
            check.due("warmth", x.warmth(0, 5), 40);
            check.due("AGE", x.food(1, 2), 300);
            check.due("LIMIT", x.food(1, 3), 2400);
            check.due("KIND", x.food(1, 0), 1);
            check.due("SORT", x.food(1, 6), 1);
            check.due("expect", x.expect(2), 4);
            check.due("smell", x.smell(20), 4);
            check.due("plan", x.plan(1, 0), 0);
            check.due("lost", x.lost(500), 16);
            check.due("back", x.back(), 0);
        }
    }
}
