/** What goes off first in a fridge. The words in capitals are those of the document, ../shared/DOC.md. */
public final class OffFirst {
    public static final int BAD = -1, NO = -2, FULL = -3, NONE = -4;

    private static final int PLAIN = 0, OPENED = 1, COOKED = 2, FROZEN = 3;
    private static final int TO_THAW = 0, TO_OPEN = 1, TO_COOK = 2, TO_FREEZE = 3;
    private static final int THERE = 0, EATEN = 1, THROWN_OUT = 2;
    private static final int FRONT = 0, OLDEST = 1;

    private static final int MOST_BYTES = 400, MOST_NUMBERS = 6, MOST_FIGURES = 3;
    private static final int MOST_CELLS = 6, MOST_FOODS = 10, MOST_SORTS = 4;
    private static final int MOST_DISHES = 5, MOST_EATERS = 4, MOST_GUESTS = 6;
    private static final int MOST_SPANS = 8, MOST_KEPT = 2;
    private static final int MOST_DAYS = 20, MOST_PLANNED = 4, MOST_LAID = 4;
    private static final int MOST_PACKS = 9, HIGHEST_LINE = 20;

    private static final int LAST_HOUR = 99999, MOST_AHEAD = 500, MOST_TILL_OFF = 5000;
    private static final int HOURS_A_DAY = 24, EVENING = 18;
    /** More than any COST can be. */
    private static final int DEAREST = 1000000000;

    private final Text text = new Text();
    /** What THE TEXT tells is read in here, so that what is LAID stays when it can not be LAID. */
    private final Told draft = new Told();
    private final Told laid = new Told();
    private final Stock stock = new Stock();
    private final Stock firstKept = new Stock();
    private final Stock secondKept = new Stock();
    private int keptNumber;
    private final Fridge fridge = new Fridge(laid, stock);
    private final Evenings evenings = new Evenings(fridge);
    private final Planner planner = new Planner(fridge, evenings);
    private final Layer layer = new Layer(fridge);
    private final Spans spans = new Spans();

    public OffFirst() {
        laid.cells.add(40, 5, 10);
        laid.foods.add(PLAIN, 0, 9, 48, 3, 0);
        stock.start(laid.foods);
    }

    // ---- fridges

    public int write(int n, long v) {
        if (!isWithin(n, 1, 8)) {
            return BAD;
        }
        return text.append(n, v) ? text.length : FULL;
    }

    public int wipe() {
        int was = text.length;
        text.length = 0;
        return was;
    }

    public int fault() {
        return draft.read(text);
    }

    public int lay() {
        if (draft.read(text) != NONE || !draft.canBeLaid()) {
            return NO;
        }
        laid.read(text);
        stock.start(laid.foods);
        spans.number = 0;
        keptNumber = 0;
        return laid.foods.number;
    }

    public int food(int i, int what) {
        if (!fridge.hasFood(i)) {
            return BAD;
        }
        switch (what) {
            case 0:
                return stock.kindOf(i);
            case 1:
                return stock.cellOf(i);
            case 2:
                return stock.ageOf(i);
            case 3:
                return fridge.limitOf(i);
            case 4:
                return stock.fateOf(i);
            case 5:
                return fridge.isOff(i) ? 1 : 0;
            case 6:
                return laid.foods.sortOf(i);
            default:
                return BAD;
        }
    }

    public int warmth(int c, int t) {
        if (!laid.cells.has(c) || !isWithin(t, 0, LAST_HOUR)) {
            return BAD;
        }
        return laid.cells.warmIn(c, t);
    }

    public int hours(int n) {
        if (!isWithin(n, 1, 999)) {
            return BAD;
        }
        if (stock.hour + n > LAST_HOUR) {
            return NO;
        }
        fridge.letHoursGoBy(n);
        return Integer.bitCount(fridge.offAndThere());
    }

    // ---- foods

    public int move(int i, int c) {
        if (!fridge.hasFood(i) || !laid.cells.has(c)) {
            return BAD;
        }
        if (!stock.isThere(i) || stock.cellOf(i) == c || stock.numberIn(c) >= laid.cells.roomOf(c)) {
            return NO;
        }
        stock.putInto(i, c);
        return stock.numberIn(c);
    }

    public int make(int i, int k) {
        if (!fridge.hasFood(i) || !isWithin(k, 0, 3)) {
            return BAD;
        }
        int was = stock.kindOf(i);
        if (!stock.isThere(i) || !canBecome(was, k)) {
            return NO;
        }
        stock.turnInto(i, k == TO_THAW ? OPENED : k);
        return was;
    }

    public int eat(int i) {
        return takeAway(i, EATEN);
    }

    public int throwOut(int i) {
        return takeAway(i, THROWN_OUT);
    }

    public int offIn(int i, int c) {
        if (!fridge.hasFood(i) || !laid.cells.has(c)) {
            return BAD;
        }
        return stock.isThere(i) ? fridge.hoursTillOff(i, c) : NO;
    }

    public int lost(int n) {
        return isWithin(n, 0, MOST_AHEAD) ? fridge.lostBehind(n) : BAD;
    }

    // ---- plans

    public int plan(int e, int i) {
        if (!isWithin(e, 1, MOST_PLANNED) || !isWithin(i, -1, e - 1)) {
            return BAD;
        }
        planner.findCheapest(e);
        return i < 0 ? planner.leastCost : planner.dishOn(i);
    }

    public int freeze(int n, int what) {
        if (!isWithin(n, 0, MOST_AHEAD) || !isWithin(what, 0, 1)) {
            return BAD;
        }
        int i = fridge.bestToFreeze(n);
        if (i < 0) {
            return NONE;
        }
        return what == 0 ? i : fridge.lostIfFrozen(i, n, fridge.lostBehind(n));
    }

    public int lie(int k, int n, int i) {
        if (!isWithin(k, 1, MOST_LAID) || !isWithin(n, 0, MOST_AHEAD) || !isWithin(i, -1, k - 1)) {
            return BAD;
        }
        if (stock.numberThere() < k) {
            return NONE;
        }
        layer.findBest(k, n);
        return i < 0 ? layer.leastLost : layer.cellFor(i);
    }

    public int expect(int q) {
        if (!isWithin(q, 0, MOST_PACKS)) {
            return BAD;
        }
        return laid.party.number > 0 ? laid.party.expectOf(q) : NONE;
    }

    public int buy() {
        return laid.party.number > 0 ? laid.party.bestPacks() : NONE;
    }

    // ---- errors, cuts, ill

    public int print(int what) {
        return isWithin(what, 0, 1) ? fridge.errorsByPrint(what == 1) : BAD;
    }

    public int smell(int t) {
        return isWithin(t, 0, HIGHEST_LINE) ? fridge.errorsBySmell(t) : BAD;
    }

    public int line() {
        return stock.numberThere() > 0 ? fridge.bestLine() : NONE;
    }

    public int cut(int n, boolean opened) {
        return isWithin(n, 1, 48) ? fridge.offBehindCut(n, opened) : BAD;
    }

    public int ill(int i, int part) {
        if (!fridge.hasFood(i) || !isWithin(part, 0, 1)) {
            return BAD;
        }
        int all = 0;
        for (int other = 0; other < laid.foods.number; other++) {
            all += fridge.weightOfIll(other);
        }
        int own = fridge.weightOfIll(i);
        int shared = greatestDivisor(all, own);
        if (all <= 0 || shared <= 0) {
            return NONE;
        }
        return part == 0 ? own / shared : all / shared;
    }

    public int span(int w, int h) {
        if (!isWithin(w, 0, 300) || !isWithin(h, 1, 300)) {
            return BAD;
        }
        return spans.add(w, h) ? spans.number : FULL;
    }

    public int noSpans() {
        int were = spans.number;
        spans.number = 0;
        return were;
    }

    public int law(int what) {
        if (!isWithin(what, 0, 1)) {
            return BAD;
        }
        int b = spans.bestLaw();
        return what == 0 ? spans.fittedBy(b) : b;
    }

    public int habit(int z, int n, int rule) {
        if (!isWithin(z, 0, 9999) || !isWithin(n, 1, MOST_DAYS) || !isWithin(rule, FRONT, OLDEST)) {
            return BAD;
        }
        return evenings.costOfHabit(z, n, rule);
    }

    public int keep() {
        if (keptNumber >= MOST_KEPT) {
            return FULL;
        }
        (keptNumber == 0 ? firstKept : secondKept).copyFrom(stock);
        keptNumber++;
        return keptNumber;
    }

    public int back() {
        if (keptNumber <= 0) {
            return NO;
        }
        keptNumber--;
        stock.copyFrom(keptNumber == 0 ? firstKept : secondKept);
        return keptNumber;
    }

    public int count(int what) {
        switch (what) {
            case 0:
                return laid.foods.number;
            case 1:
                return laid.cells.number;
            case 2:
                return laid.dishNumber;
            case 3:
                return laid.eaterNumber;
            case 4:
                return laid.party.number;
            case 5:
                return spans.number;
            case 6:
                return stock.hour;
            case 7:
                return stock.numberThere();
            case 8:
                return text.length;
            case 9:
                return keptNumber;
            default:
                return BAD;
        }
    }

    // ---- helpers

    private int takeAway(int i, int fate) {
        if (!fridge.hasFood(i)) {
            return BAD;
        }
        if (!stock.isThere(i)) {
            return NO;
        }
        stock.takeOut(i, fate);
        return fridge.isOff(i) ? 1 : 0;
    }

    private static boolean canBecome(int kind, int change) {
        switch (change) {
            case TO_THAW:
                return kind == FROZEN;
            case TO_OPEN:
                return kind == PLAIN;
            case TO_COOK:
                return kind == PLAIN || kind == OPENED;
            case TO_FREEZE:
                return kind != FROZEN;
            default:
                return false;
        }
    }

    private static boolean isWithin(int number, int least, int most) {
        return number >= least && number <= most;
    }

    /** A number of a row, 0 outside of it: no index is used untested. */
    private static int at(int[] row, int i) {
        return i >= 0 && i < row.length ? row[i] : 0;
    }

    /** Sets a number of a row; outside of it nothing happens: no index is used untested. */
    private static void put(int[] row, int i, int value) {
        if (i >= 0 && i < row.length) {
            row[i] = value;
        }
    }

    private static boolean hasBit(int bits, int i) {
        return (bits >> i & 1) == 1;
    }

    private static int greatestDivisor(int a, int b) {
        int greater = a;
        int less = b;
        // Two ints take 46 steps at most.
        for (int step = 0; step < 64 && less != 0; step++) {
            int rest = greater % less;
            greater = less;
            less = rest;
        }
        return greater;
    }

    /** What a FOOD ages in some HOURS, told the warmth of all of them together. */
    private static int ageing(int kind, int hours, int warmthInAll) {
        if (kind == FROZEN) {
            return hours;
        }
        int plain = 10 * hours + warmthInAll;
        return kind == OPENED ? 2 * plain : plain;
    }

    /** THE TEXT, and the ITEM of it that was read last: its letter and its numbers. */
    private static final class Text {
        private final int[] bytes = new int[MOST_BYTES];
        private int length;
        private int letter;
        private final int[] numbers = new int[MOST_NUMBERS];
        private int told;

        boolean append(int n, long v) {
            if (n > MOST_BYTES - length) {
                return false;
            }
            for (int left = n - 1; left >= 0; left--) {
                put(bytes, length, (int) (v >>> 8 * left & 255));
                length++;
            }
            return true;
        }

        /** The byte at a place; behind the last one 0, which stands in no ITEM. */
        private int byteAt(int place) {
            return place < length ? at(bytes, place) : 0;
        }

        /** Reads the ITEM at a place: the place behind it, NONE if none is there. */
        int readItem(int start) {
            letter = byteAt(start);
            told = 0;
            int place = start + 1;
            for (int i = 0; i < MOST_NUMBERS; i++) {
                int behind = readNumber(place);
                if (behind == place) {
                    return NONE;
                }
                int sign = byteAt(behind);
                place = behind + 1;
                if (sign == ';') {
                    return place;
                }
                if (sign != ',') {
                    return NONE;
                }
            }
            return NONE;
        }

        /** Reads the figures at a place: the place behind them, the same one if none are there. */
        private int readNumber(int start) {
            int value = 0;
            int figures = 0;
            for (int i = 0; i < MOST_FIGURES && isFigure(byteAt(start + i)); i++) {
                value = 10 * value + byteAt(start + i) - '0';
                figures++;
            }
            if (figures > 0) {
                put(numbers, told, value);
                told++;
            }
            return start + figures;
        }

        private static boolean isFigure(int sign) {
            return sign >= '0' && sign <= '9';
        }

        int number(int i) {
            return at(numbers, i);
        }

        boolean isNumberWithin(int i, int least, int most) {
            return i < told && isWithin(number(i), least, most);
        }
    }

    /** What a TEXT tells. */
    private static final class Told {
        private final Cells cells = new Cells();
        private final Foods foods = new Foods();
        private final int[] dishes = new int[MOST_DISHES];
        private int dishNumber;
        private final int[] eaters = new int[MOST_EATERS];
        private int eaterNumber;
        private final Party party = new Party();
        private int slip = 1;

        /** Reads a TEXT as far as it has no FAULT: the FAULT, NONE without. */
        int read(Text text) {
            clear();
            int place = 0;
            for (int items = 0; items < MOST_BYTES && place < text.length; items++) {
                int behind = text.readItem(place);
                if (behind < 0 || !takeItem(text)) {
                    return place;
                }
                place = behind;
            }
            return NONE;
        }

        private void clear() {
            cells.clear();
            foods.clear();
            dishNumber = 0;
            eaterNumber = 0;
            party.clear();
            slip = 1;
        }

        private boolean takeItem(Text item) {
            switch (item.letter) {
                case 'c':
                    return takeCell(item);
                case 'o':
                    return takeOpenedHour(item);
                case 'f':
                    return takeFood(item);
                case 'd':
                    return takeDish(item);
                case 'e':
                    return takeEater(item);
                case 'g':
                    return takeGuests(item);
                case 'b':
                    return takePacks(item);
                case 's':
                    return takeSlip(item);
                default:
                    return false;
            }
        }

        private boolean takeCell(Text item) {
            return item.told == 3 && item.isNumberWithin(0, 0, 200) && item.isNumberWithin(1, 0, 99)
                    && item.isNumberWithin(2, 1, 10)
                    && cells.add(item.number(0), item.number(1), item.number(2));
        }

        private boolean takeOpenedHour(Text item) {
            if (item.told != 1 || !item.isNumberWithin(0, 0, HOURS_A_DAY - 1)) {
                return false;
            }
            cells.openIn(item.number(0));
            return true;
        }

        private boolean takeFood(Text item) {
            return item.told == 6 && item.isNumberWithin(0, PLAIN, FROZEN) && cells.has(item.number(1))
                    && item.isNumberWithin(2, 0, 99) && item.isNumberWithin(3, 1, 240)
                    && item.isNumberWithin(4, 0, 99) && item.isNumberWithin(5, 0, MOST_SORTS - 1)
                    && foods.add(item.number(0), item.number(1), item.number(2),
                            item.number(3), item.number(4), item.number(5));
        }

        private boolean takeDish(Text item) {
            if (item.told != 1 || !item.isNumberWithin(0, 1, 15) || dishNumber >= MOST_DISHES) {
                return false;
            }
            put(dishes, dishNumber, item.number(0));
            dishNumber++;
            return true;
        }

        private boolean takeEater(Text item) {
            if (item.told != 1 || !item.isNumberWithin(0, 0, 15) || eaterNumber >= MOST_EATERS) {
                return false;
            }
            put(eaters, eaterNumber, item.number(0));
            eaterNumber++;
            return true;
        }

        private boolean takeGuests(Text item) {
            return item.told == 2 && item.isNumberWithin(0, 0, 9) && item.isNumberWithin(1, 1, 99)
                    && party.add(item.number(0), item.number(1));
        }

        private boolean takePacks(Text item) {
            if (item.told != 2 || !item.isNumberWithin(0, 1, 99) || !item.isNumberWithin(1, 1, 198)) {
                return false;
            }
            party.single = item.number(0);
            party.pair = item.number(1);
            return true;
        }

        private boolean takeSlip(Text item) {
            if (item.told != 1 || !item.isNumberWithin(0, 0, 4)) {
                return false;
            }
            slip = item.number(0);
            return true;
        }

        boolean canBeLaid() {
            for (int c = 0; c < cells.number; c++) {
                if (foods.numberIn(c) > cells.roomOf(c)) {
                    return false;
                }
            }
            return cells.number > 0 && foods.number > 0;
        }

        int sortsOfDish(int dish) {
            return at(dishes, dish);
        }

        /** How many EATERS get nothing of a DISH of these SORTS (0: no DISH). */
        int hungryWith(int sorts) {
            int hungry = 0;
            for (int e = 0; e < eaterNumber; e++) {
                if (sorts == 0 || (at(eaters, e) & sorts) != 0) {
                    hungry++;
                }
            }
            return hungry;
        }
    }

    /** The CELLS as told, and the HOURS in which the door is OPENED. */
    private static final class Cells {
        private final int[] warm = new int[MOST_CELLS];
        private final int[] more = new int[MOST_CELLS];
        private final int[] room = new int[MOST_CELLS];
        private int number;
        private int openedHours;

        void clear() {
            number = 0;
            openedHours = 0;
        }

        boolean add(int w, int r, int m) {
            if (number >= MOST_CELLS) {
                return false;
            }
            put(warm, number, w);
            put(more, number, r);
            put(room, number, m);
            number++;
            return true;
        }

        void openIn(int hourOfDay) {
            openedHours |= 1 << hourOfDay;
        }

        boolean has(int c) {
            return c >= 0 && c < number;
        }

        int roomOf(int c) {
            return at(room, c);
        }

        boolean isOpenedIn(int hour) {
            return (openedHours >> hour % HOURS_A_DAY & 1) == 1;
        }

        int warmIn(int c, int hour) {
            return isOpenedIn(hour) ? at(warm, c) + at(more, c) : at(warm, c);
        }

        /** The warmth of some HOURS together. */
        int warmthOver(int c, int from, int hours) {
            int opened = hours / HOURS_A_DAY * Integer.bitCount(openedHours);
            for (int h = 0; h < hours % HOURS_A_DAY; h++) {
                if (isOpenedIn(from + h)) {
                    opened++;
                }
            }
            return hours * at(warm, c) + opened * at(more, c);
        }

        /** The warmth of the HOURS of a CUT together: 3, 6, 9, .. more come up to 3 n (n and 1) by 2. */
        int warmthOverCut(int c, int hours, boolean opened) {
            int warmer = 3 * hours * (hours + 1) / 2;
            return hours * at(warm, c) + warmer + (opened ? at(more, c) : 0);
        }
    }

    /** The FOODS as told. */
    private static final class Foods {
        private final int[] kind = new int[MOST_FOODS];
        private final int[] cell = new int[MOST_FOODS];
        private final int[] coin = new int[MOST_FOODS];
        private final int[] life = new int[MOST_FOODS];
        private final int[] printed = new int[MOST_FOODS];
        private final int[] sort = new int[MOST_FOODS];
        /** The FOODS of each SORT, as bits. */
        private final int[] ofSort = new int[MOST_SORTS];
        private int number;

        void clear() {
            number = 0;
            for (int s = 0; s < MOST_SORTS; s++) {
                put(ofSort, s, 0);
            }
        }

        boolean add(int k, int c, int v, int l, int p, int s) {
            if (number >= MOST_FOODS) {
                return false;
            }
            put(kind, number, k);
            put(cell, number, c);
            put(coin, number, v);
            put(life, number, l);
            put(printed, number, p);
            put(sort, number, s);
            put(ofSort, s, at(ofSort, s) | 1 << number);
            number++;
            return true;
        }

        int kindOf(int i) {
            return at(kind, i);
        }

        int cellOf(int i) {
            return at(cell, i);
        }

        int coinOf(int i) {
            return at(coin, i);
        }

        int printedOf(int i) {
            return at(printed, i);
        }

        int sortOf(int i) {
            return at(sort, i);
        }

        int limitAs(int i, int kindThen) {
            return 50 * (kindThen == COOKED ? at(life, i) + 96 : at(life, i));
        }

        int numberIn(int c) {
            int in = 0;
            for (int i = 0; i < number; i++) {
                if (at(cell, i) == c) {
                    in++;
                }
            }
            return in;
        }

        int coinOfAll(int bits) {
            int sum = 0;
            for (int i = 0; i < number; i++) {
                if (hasBit(bits, i)) {
                    sum += at(coin, i);
                }
            }
            return sum;
        }

        int bitsOfSort(int s) {
            return at(ofSort, s);
        }
    }

    /** The told GUESTS and what PACKS cost. */
    private static final class Party {
        private final int[] guests = new int[MOST_GUESTS];
        private final int[] weight = new int[MOST_GUESTS];
        private int number;
        private int single = 10;
        private int pair = 20;

        void clear() {
            number = 0;
            single = 10;
            pair = 20;
        }

        boolean add(int n, int w) {
            if (number >= MOST_GUESTS) {
                return false;
            }
            put(guests, number, n);
            put(weight, number, w);
            number++;
            return true;
        }

        int expectOf(int packs) {
            int packsCost = Math.min(packs * single, packs / 2 * pair + packs % 2 * single);
            int sum = 0;
            for (int g = 0; g < number; g++) {
                int without = Math.max(at(guests, g) - packs, 0);
                sum += at(weight, g) * (packsCost + 15 * without);
            }
            return sum;
        }

        int bestPacks() {
            int best = 0;
            for (int packs = 1; packs <= MOST_PACKS; packs++) {
                if (expectOf(packs) < expectOf(best)) {
                    best = packs;
                }
            }
            return best;
        }
    }

    /** What changes of the FOODS, and the HOUR: what can be KEPT. */
    private static final class Stock {
        private final int[] kind = new int[MOST_FOODS];
        private final int[] cell = new int[MOST_FOODS];
        private final int[] age = new int[MOST_FOODS];
        private final int[] fate = new int[MOST_FOODS];
        private final int[] leftIn = new int[MOST_FOODS];
        private int number;
        private int hour;

        void start(Foods told) {
            number = told.number;
            hour = 0;
            for (int i = 0; i < number; i++) {
                put(kind, i, told.kindOf(i));
                put(cell, i, told.cellOf(i));
                put(age, i, 0);
                put(fate, i, THERE);
                put(leftIn, i, 0);
            }
        }

        void copyFrom(Stock other) {
            number = other.number;
            hour = other.hour;
            for (int i = 0; i < number; i++) {
                put(kind, i, at(other.kind, i));
                put(cell, i, at(other.cell, i));
                put(age, i, at(other.age, i));
                put(fate, i, at(other.fate, i));
                put(leftIn, i, at(other.leftIn, i));
            }
        }

        int kindOf(int i) {
            return at(kind, i);
        }

        void turnInto(int i, int newKind) {
            put(kind, i, newKind);
        }

        int cellOf(int i) {
            return at(cell, i);
        }

        void putInto(int i, int c) {
            put(cell, i, c);
        }

        int ageOf(int i) {
            return at(age, i);
        }

        void ageTo(int i, int newAge) {
            put(age, i, newAge);
        }

        int fateOf(int i) {
            return at(fate, i);
        }

        void takeOut(int i, int newFate) {
            put(fate, i, newFate);
            put(leftIn, i, hour);
        }

        int hoursSinceLeft(int i) {
            return hour - at(leftIn, i);
        }

        boolean isThere(int i) {
            return i >= 0 && i < number && at(fate, i) == THERE;
        }

        int bitsThere() {
            int bits = 0;
            for (int i = 0; i < number; i++) {
                if (isThere(i)) {
                    bits |= 1 << i;
                }
            }
            return bits;
        }

        int numberThere() {
            return Integer.bitCount(bitsThere());
        }

        int numberIn(int c) {
            int in = 0;
            for (int i = 0; i < number; i++) {
                if (isThere(i) && at(cell, i) == c) {
                    in++;
                }
            }
            return in;
        }
    }

    /** What is LAID and how it stands now, and what comes of it. */
    private static final class Fridge {
        private final Told laid;
        private final Stock stock;

        Fridge(Told laid, Stock stock) {
            this.laid = laid;
            this.stock = stock;
        }

        boolean hasFood(int i) {
            return i >= 0 && i < laid.foods.number;
        }

        int limitOf(int i) {
            return laid.foods.limitAs(i, stock.kindOf(i));
        }

        boolean isOff(int i) {
            return stock.ageOf(i) >= limitOf(i);
        }

        /** The FOODS that are THERE and OFF, as bits. */
        int offAndThere() {
            int bits = 0;
            for (int i = 0; i < laid.foods.number; i++) {
                if (stock.isThere(i) && isOff(i)) {
                    bits |= 1 << i;
                }
            }
            return bits;
        }

        int ageBehind(int i, int hours) {
            return ageAs(i, stock.kindOf(i), stock.cellOf(i), hours);
        }

        private int ageAs(int i, int kind, int c, int hours) {
            return stock.ageOf(i) + ageing(kind, hours, laid.cells.warmthOver(c, stock.hour, hours));
        }

        /** The coin of a FOOD, if, of a KIND and in a CELL, it is OFF behind some HOURS; 0 else. */
        int coinLostAs(int i, int kind, int c, int hours) {
            return ageAs(i, kind, c, hours) >= laid.foods.limitAs(i, kind) ? laid.foods.coinOf(i) : 0;
        }

        void letHoursGoBy(int hours) {
            for (int i = 0; i < laid.foods.number; i++) {
                if (stock.isThere(i)) {
                    stock.ageTo(i, ageBehind(i, hours));
                }
            }
            stock.hour += hours;
        }

        /** Leaps over whole days, each of which ages the FOOD alike; the HOURS of the last one go one by one. */
        int hoursTillOff(int i, int c) {
            int kind = stock.kindOf(i);
            int left = limitOf(i) - stock.ageOf(i);
            if (left <= 0) {
                return 0;
            }
            int aDay = ageing(kind, HOURS_A_DAY, laid.cells.warmthOver(c, stock.hour, HOURS_A_DAY));
            int days = aDay > 0 ? (left - 1) / aDay : 0;
            int hours = days * HOURS_A_DAY;
            left -= days * aDay;
            for (int h = 0; h < HOURS_A_DAY && left > 0; h++) {
                left -= ageing(kind, 1, laid.cells.warmIn(c, stock.hour + h));
                hours++;
            }
            return hours <= MOST_TILL_OFF ? hours : NONE;
        }

        int lostBehind(int hours) {
            int sum = 0;
            for (int i = 0; i < laid.foods.number; i++) {
                if (stock.isThere(i)) {
                    sum += coinLostAs(i, stock.kindOf(i), stock.cellOf(i), hours);
                }
            }
            return sum;
        }

        /** What is LOST with one FOOD frozen now, told what is LOST else. */
        int lostIfFrozen(int i, int hours, int lostElse) {
            int cell = stock.cellOf(i);
            int asItIs = coinLostAs(i, stock.kindOf(i), cell, hours);
            return lostElse - asItIs + coinLostAs(i, FROZEN, cell, hours);
        }

        /** The FOOD to freeze, NONE if none makes it less. */
        int bestToFreeze(int hours) {
            int best = NONE;
            int lostElse = lostBehind(hours);
            int least = lostElse;
            for (int i = 0; i < laid.foods.number; i++) {
                if (stock.isThere(i) && stock.kindOf(i) != FROZEN) {
                    int lost = lostIfFrozen(i, hours, lostElse);
                    if (lost < least) {
                        best = i;
                        least = lost;
                    }
                }
            }
            return best;
        }

        /** OFF ones that are eaten, or good ones that are thrown. */
        int errorsByPrint(boolean eaten) {
            int day = stock.hour / HOURS_A_DAY;
            int errors = 0;
            for (int i = 0; i < laid.foods.number; i++) {
                boolean thrown = day > laid.foods.printedOf(i);
                if (stock.isThere(i) && isOff(i) == eaten && thrown != eaten) {
                    errors++;
                }
            }
            return errors;
        }

        int errorsBySmell(int line) {
            int tenths = 0;
            for (int i = 0; i < laid.foods.number; i++) {
                if (stock.isThere(i)) {
                    boolean smellsOff = 10 * stock.ageOf(i) >= line * limitOf(i);
                    tenths += smellsOff == isOff(i) ? laid.slip : 10 - laid.slip;
                }
            }
            return tenths;
        }

        int bestLine() {
            int best = 0;
            for (int line = 1; line <= HIGHEST_LINE; line++) {
                if (errorsBySmell(line) < errorsBySmell(best)) {
                    best = line;
                }
            }
            return best;
        }

        int offBehindCut(int hours, boolean opened) {
            int bits = 0;
            for (int i = 0; i < laid.foods.number; i++) {
                int warmth = laid.cells.warmthOverCut(stock.cellOf(i), hours, opened);
                int age = stock.ageOf(i) + ageing(stock.kindOf(i), hours, warmth);
                if (stock.isThere(i) && age >= limitOf(i)) {
                    bits |= 1 << i;
                }
            }
            return bits;
        }

        int weightOfIll(int i) {
            int ago = stock.hoursSinceLeft(i);
            int limit = limitOf(i);
            if (stock.fateOf(i) != EATEN || !isWithin(ago, 6, 72) || limit <= 0) {
                return 0;
            }
            int weight = 10 * stock.ageOf(i) / limit;
            return ago <= 24 ? 2 * weight : weight;
        }
    }

    /** The next EVENINGS: how the FOODS that are THERE now will stand as each begins. */
    private static final class Evenings {
        private final Fridge fridge;
        private final int[] ages = new int[MOST_DAYS * MOST_FOODS];
        private final int[] limits = new int[MOST_FOODS];
        private final int[] offs = new int[MOST_DAYS];

        Evenings(Fridge fridge) {
            this.fridge = fridge;
        }

        void lookAhead(int number) {
            int first = (EVENING + HOURS_A_DAY - fridge.stock.hour % HOURS_A_DAY) % HOURS_A_DAY;
            for (int i = 0; i < fridge.laid.foods.number; i++) {
                put(limits, i, fridge.limitOf(i));
            }
            for (int evening = 0; evening < number; evening++) {
                int off = 0;
                for (int i = 0; i < fridge.laid.foods.number; i++) {
                    int age = fridge.ageBehind(i, first + evening * HOURS_A_DAY);
                    put(ages, evening * MOST_FOODS + i, age);
                    if (age >= at(limits, i)) {
                        off |= 1 << i;
                    }
                }
                put(offs, evening, off);
            }
        }

        int offOn(int evening) {
            return at(offs, evening);
        }

        /** Of some FOODS that whose AGE by LIMIT is greatest, as a bit; 0 of none. */
        int oldestOn(int evening, int bits) {
            int oldest = NONE;
            for (int i = 0; i < fridge.laid.foods.number; i++) {
                if (hasBit(bits, i) && (oldest < 0 || isOlderOn(evening, i, oldest))) {
                    oldest = i;
                }
            }
            return oldest < 0 ? 0 : 1 << oldest;
        }

        private boolean isOlderOn(int evening, int i, int other) {
            // As products, which are exact; they are beyond an int.
            long own = (long) at(ages, evening * MOST_FOODS + i) * at(limits, other);
            long others = (long) at(ages, evening * MOST_FOODS + other) * at(limits, i);
            return own > others;
        }

        int costOfHabit(int z, int days, int rule) {
            lookAhead(days);
            int there = fridge.stock.bitsThere();
            int cost = 0;
            for (int k = 0; k < days; k++) {
                if (isOneTaken(z, k)) {
                    int taken = rule == FRONT ? highestOf(there) : oldestOn(k, there);
                    cost += fridge.laid.foods.coinOfAll(taken & offOn(k));
                    there &= ~taken;
                }
            }
            return cost + fridge.laid.foods.coinOfAll(there & offOn(days - 1));
        }

        private static boolean isOneTaken(int z, int k) {
            long x = 7919L * z + 6151L * k + 1;
            return x * x % 65521 % 3 != 0;
        }

        private static int highestOf(int bits) {
            for (int i = MOST_FOODS - 1; i >= 0; i--) {
                if (hasBit(bits, i)) {
                    return 1 << i;
                }
            }
            return 0;
        }
    }

    /** PLAN: tries all rows of DISHES. */
    private static final class Planner {
        private final Fridge fridge;
        private final Evenings evenings;
        private final int[] row = new int[MOST_PLANNED];
        private final int[] best = new int[MOST_PLANNED];
        private int number;
        private int leastCost;

        Planner(Fridge fridge, Evenings evenings) {
            this.fridge = fridge;
            this.evenings = evenings;
        }

        void findCheapest(int numberOfEvenings) {
            number = numberOfEvenings;
            leastCost = DEAREST;
            evenings.lookAhead(number);
            tryEvening(this, 0, fridge.stock.bitsThere(), 0);
        }

        int dishOn(int evening) {
            return at(best, evening);
        }

        /**
         * Tries what can be eaten from an EVENING on; in order, so that of several the first stays. Static, as a method
         * that calls itself has to be.
         */
        private static void tryEvening(Planner plan, int evening, int there, int cost) {
            if (cost >= plan.leastCost) {
                return;
            }
            if (evening >= plan.number || evening >= MOST_PLANNED) {
                plan.settle(cost + plan.coinLeft(there));
                return;
            }
            put(plan.row, evening, NONE);
            tryEvening(plan, evening + 1, there, cost + plan.costOfHunger(0));
            for (int dish = 0; dish < plan.fridge.laid.dishNumber; dish++) {
                int sorts = plan.fridge.laid.sortsOfDish(dish);
                int eaten = plan.eatenOn(evening, there, sorts);
                if (eaten != 0) {
                    put(plan.row, evening, dish);
                    tryEvening(plan, evening + 1, there & ~eaten, cost + plan.costOfHunger(sorts));
                }
            }
        }

        private int costOfHunger(int sorts) {
            return 10 * fridge.laid.hungryWith(sorts);
        }

        /** The coin of those that are left and OFF as the last EVENING begins. */
        private int coinLeft(int there) {
            return fridge.laid.foods.coinOfAll(there & evenings.offOn(number - 1));
        }

        /** The FOODS that a DISH takes, as bits; 0 if it can not be. */
        private int eatenOn(int evening, int there, int sorts) {
            int good = there & ~evenings.offOn(evening);
            int eaten = 0;
            for (int sort = 0; sort < MOST_SORTS; sort++) {
                if (hasBit(sorts, sort)) {
                    int food = evenings.oldestOn(evening, good & fridge.laid.foods.bitsOfSort(sort));
                    if (food == 0) {
                        return 0;
                    }
                    eaten |= food;
                }
            }
            return eaten;
        }

        private void settle(int cost) {
            if (cost >= leastCost) {
                return;
            }
            leastCost = cost;
            for (int evening = 0; evening < number; evening++) {
                put(best, evening, at(row, evening));
            }
        }
    }

    /** LIE: tries all ways to lay the first FOODS that are THERE. */
    private static final class Layer {
        private final Fridge fridge;
        private final int[] lostIn = new int[MOST_LAID * MOST_CELLS];
        private final int[] free = new int[MOST_CELLS];
        private final int[] way = new int[MOST_LAID];
        private final int[] best = new int[MOST_LAID];
        private int number;
        private int leastLost;

        Layer(Fridge fridge) {
            this.fridge = fridge;
        }

        void findBest(int k, int hours) {
            number = k;
            leastLost = DEAREST;
            for (int c = 0; c < fridge.laid.cells.number; c++) {
                put(free, c, fridge.laid.cells.roomOf(c) - fridge.stock.numberIn(c));
            }
            tryFood(this, 0, lookAtFoods(hours));
        }

        /** Frees the room of the FOODS to be laid and notes what they would cost in each CELL: what is LOST of the others. */
        private int lookAtFoods(int hours) {
            int taken = 0;
            int others = 0;
            for (int i = 0; i < fridge.laid.foods.number; i++) {
                if (fridge.stock.isThere(i)) {
                    int kind = fridge.stock.kindOf(i);
                    int own = fridge.stock.cellOf(i);
                    if (taken >= number) {
                        others += fridge.coinLostAs(i, kind, own, hours);
                        continue;
                    }
                    put(free, own, at(free, own) + 1);
                    for (int c = 0; c < fridge.laid.cells.number; c++) {
                        put(lostIn, taken * MOST_CELLS + c, fridge.coinLostAs(i, kind, c, hours));
                    }
                    taken++;
                }
            }
            return others;
        }

        int cellFor(int place) {
            return at(best, place);
        }

        /**
         * Tries the CELLS of one FOOD and of those behind it; in order, so that of several the first stays. Static, as a
         * method that calls itself has to be.
         */
        private static void tryFood(Layer layer, int place, int lost) {
            if (place >= layer.number || place >= MOST_LAID) {
                layer.settle(lost);
                return;
            }
            for (int c = 0; c < layer.fridge.laid.cells.number; c++) {
                int room = at(layer.free, c);
                if (room > 0) {
                    put(layer.free, c, room - 1);
                    put(layer.way, place, c);
                    tryFood(layer, place + 1, lost + at(layer.lostIn, place * MOST_CELLS + c));
                    put(layer.free, c, room);
                }
            }
        }

        private void settle(int lost) {
            if (lost >= leastLost) {
                return;
            }
            leastLost = lost;
            for (int place = 0; place < number; place++) {
                put(best, place, at(way, place));
            }
        }
    }

    /** The SPANS, and the LAW that FITS them. */
    private static final class Spans {
        private final int[] warm = new int[MOST_SPANS];
        private final int[] hours = new int[MOST_SPANS];
        private int number;

        boolean add(int w, int h) {
            if (number >= MOST_SPANS) {
                return false;
            }
            put(warm, number, w);
            put(hours, number, h);
            number++;
            return true;
        }

        int fittedBy(int b) {
            int fitted = 0;
            for (int s = 0; s < number; s++) {
                int anHour = b + at(warm, s);
                int h = at(hours, s);
                if (anHour * h >= 2400 && anHour * (h - 1) < 2400) {
                    fitted++;
                }
            }
            return fitted;
        }

        int bestLaw() {
            int best = 0;
            for (int b = 1; b <= 40; b++) {
                if (fittedBy(b) > fittedBy(best)) {
                    best = b;
                }
            }
            return best;
        }
    }
}
