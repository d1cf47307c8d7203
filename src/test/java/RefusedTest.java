import java.util.ArrayList;
import java.util.List;

/** Each refused call in some states: what it answers, and that nothing changes then; nor by a call that only asks. */
public final class RefusedTest {
    private static final int BAD = OffFirst.BAD, NO = OffFirst.NO, FULL = OffFirst.FULL, NONE = OffFirst.NONE;

    private interface Call {
        int on(OffFirst x);
    }

    /** How an object was brought where it is. */
    private interface Way {
        OffFirst go();
    }

    private static final Check check = new Check("RefusedTest");
    /** What is done ahead of a look, so that all that is held in the object can be seen. */
    private static final List<Call> GLASSES = List.of(
        x -> 0,
        x -> x.hours(1),
        x -> x.hours(30),
        x -> x.back(),
        x -> x.back() + x.back(),
        x -> x.keep() + x.hours(1) + x.back(),
        x -> x.lay(),
        x -> x.write(1, ';') + x.lay(),
        x -> x.wipe(),
        x -> x.noSpans() + x.span(40, 48));

    private final Way way;
    private final List<String> before;

    private RefusedTest(Way way) {
        this.way = way;
        this.before = looks(null);
    }

    public static void main(String[] args) {
        aNewObject();
        aRichOne();
        aSpentOne();
        check.end();
    }

    // ---- looking

    private List<String> looks(Call call) {
        List<String> looks = new ArrayList<>();
        for (Call glass : GLASSES) {
            OffFirst x = way.go();
            if (call != null) {
                call.on(x);
            }
            StringBuilder look = new StringBuilder().append(glass.on(x)).append(':');
            lookAtWhatIs(x, look);
            lookAtWhatComes(x, look);
            looks.add(look.toString());
        }
        return looks;
    }

    private static void lookAtWhatIs(OffFirst x, StringBuilder look) {
        for (int what = 0; what <= 9; what++) {
            look.append(" n").append(x.count(what));
        }
        look.append(" fault ").append(x.fault());
        for (int i = 0; i < x.count(0); i++) {
            for (int what = 0; what <= 6; what++) {
                look.append(" f").append(x.food(i, what));
            }
            look.append(" ill ").append(x.ill(i, 0)).append('/').append(x.ill(i, 1));
        }
        for (int c = 0; c < x.count(1); c++) {
            for (int hour = 0; hour < 24; hour++) {
                look.append(" w").append(x.warmth(c, hour));
            }
        }
        for (int q = 0; q <= 9; q++) {
            look.append(" x").append(x.expect(q));
        }
        look.append(" law ").append(x.law(0)).append('/').append(x.law(1));
        look.append(" print ").append(x.print(0)).append('/').append(x.print(1));
        for (int line = 0; line <= 20; line += 3) {
            look.append(" s").append(x.smell(line));
        }
    }

    private static void lookAtWhatComes(OffFirst x, StringBuilder look) {
        for (int e = 1; e <= 4; e++) {
            for (int i = -1; i < e; i++) {
                look.append(" p").append(x.plan(e, i));
            }
            look.append(" l").append(x.lie(e, 20 * e, -1)).append('/').append(x.lie(e, 20 * e, e - 1));
            look.append(" z").append(x.freeze(30 * e, 0)).append('/').append(x.freeze(30 * e, 1));
            look.append(" h").append(x.habit(77 * e, 3 * e, e % 2));
            look.append(" v").append(x.lost(100 * e));
            look.append(" c").append(x.cut(12 * e, e % 2 == 0));
        }
        for (int i = 0; i < x.count(0); i++) {
            look.append(" o").append(x.offIn(i, 0));
        }
    }

    private void refused(String name, int answer, Call call) {
        check.due(name, call.on(way.go()), answer);
        sameBehind(name, call);
    }

    private void asks(String name, Call call) {
        check.holds(name + " tells", call.on(way.go()) >= 0);
        sameBehind(name, call);
    }

    private void sameBehind(String name, Call call) {
        List<String> behind = looks(call);
        for (int i = 0; i < GLASSES.size(); i++) {
            check.due("the look " + i + " behind " + name, behind.get(i), before.get(i));
        }
    }

    // ---- states

    private static void aNewObject() {
        check.sentence("a new object; nothing changes then");
        RefusedTest test = new RefusedTest(OffFirst::new);
        test.badNumbers(1, 1);
        test.refused("lay() of nothing", NO, x -> x.lay());
        test.refused("move(0, 0), there already", NO, x -> x.move(0, 0));
        test.refused("make(0, 0), PLAIN", NO, x -> x.make(0, 0));
        test.refused("freeze(47, 0), not less", NONE, x -> x.freeze(47, 0));
        test.refused("freeze(47, 1), not less", NONE, x -> x.freeze(47, 1));
        test.refused("lie(2, 5, 0), fewer", NONE, x -> x.lie(2, 5, 0));
        test.refused("expect(1), no GUESTS", NONE, x -> x.expect(1));
        test.refused("buy(), no GUESTS", NONE, x -> x.buy());
        test.refused("ill(0, 0), 0 in all", NONE, x -> x.ill(0, 0));
        test.refused("ill(0, 1), 0 in all", NONE, x -> x.ill(0, 1));
        test.refused("fault(), none", NONE, x -> x.fault());
        test.refused("back(), none KEPT", NO, x -> x.back());
        test.refused("plan(1, 0), none", NONE, x -> x.plan(1, 0));
    }

    /** THE TEXT, SPANS, KEPT are full; CELL 2 has no room; FOOD 1 is eaten, FOOD 3 thrown out; FOOD 4 is FROZEN for long. */
    private static OffFirst rich() {
        OffFirst x = check.laid("c40,5,5;c60,9,5;c10,0,1;o3;o18;f0,0,9,20,1,0;f1,0,7,30,0,1;f2,1,5,10,9,2;f0,2,3,40,2,0;"
                + "f3,1,8,240,3,3;f0,0,6,25,0,1;d1;d3;d8;e0;e2;g2,3;g0,1;b7,9;s2;");
        x.hours(2);
        x.keep();
        x.hours(5);
        x.eat(1);
        x.make(2, 3);
        x.keep();
        x.hours(7);
        x.throwOut(3);
        x.move(5, 2);
        for (int i = 0; i < 8; i++) {
            x.span(30 + i, 40);
        }
        Check.write(x, "o1;".repeat((400 - x.count(8)) / 3));
        Check.write(x, "o12".substring(0, 400 - x.count(8)));
        return x;
    }

    private static void aRichOne() {
        check.sentence("full of all; nothing changes then");
        RefusedTest test = new RefusedTest(RefusedTest::rich);
        OffFirst is = rich();
        check.due("bytes", is.count(8), 400);
        check.holds("THE TEXT has a FAULT", is.fault() >= 0);
        test.badNumbers(6, 3);
        for (int n = 1; n <= 8; n++) {
            int bytes = n;
            test.refused("write(" + n + ", ..), full", FULL, x -> x.write(bytes, 0x3b3b3b3b3b3b3b3bL));
        }
        test.refused("lay() with a FAULT", NO, x -> x.lay());
        test.refused("move(0, 2), no room", NO, x -> x.move(0, 2));
        test.refused("move(0, 0), there already", NO, x -> x.move(0, 0));
        test.refused("make(2, 1), FROZEN", NO, x -> x.make(2, 1));
        test.refused("make(2, 2), FROZEN", NO, x -> x.make(2, 2));
        test.refused("make(2, 3), FROZEN", NO, x -> x.make(2, 3));
        test.refused("make(0, 0), PLAIN", NO, x -> x.make(0, 0));
        for (int gone : new int[] {1, 3}) {
            test.refused("move(" + gone + ", 1), not THERE", NO, x -> x.move(gone, 1));
            for (int k = 0; k <= 3; k++) {
                int made = k;
                test.refused("make(" + gone + ", " + k + "), not THERE", NO, x -> x.make(gone, made));
            }
            test.refused("eat(" + gone + "), not THERE", NO, x -> x.eat(gone));
            test.refused("throwOut(" + gone + "), not THERE", NO, x -> x.throwOut(gone));
            test.refused("offIn(" + gone + ", 0), not THERE", NO, x -> x.offIn(gone, 0));
        }
        test.refused("offIn(4, 0), none", NONE, x -> x.offIn(4, 0));
        test.refused("freeze(0, 0), not less", NONE, x -> x.freeze(0, 0));
        test.refused("span(40, 48), full", FULL, x -> x.span(40, 48));
        test.refused("keep(), full", FULL, x -> x.keep());
        test.richAsks();
    }

    private void richAsks() {
        check.sentence("full of all; asking changes nothing");
        asks("fault()", x -> x.fault());
        asks("food(0, 2)", x -> x.food(0, 2));
        asks("warmth(1, 99999)", x -> x.warmth(1, 99999));
        asks("offIn(0, 1)", x -> x.offIn(0, 1));
        asks("lost(500)", x -> x.lost(500));
        asks("plan(4, -1)", x -> x.plan(4, -1));
        asks("plan(1, 0)", x -> x.plan(1, 0));
        asks("freeze(30, 0)", x -> x.freeze(30, 0));
        asks("freeze(30, 1)", x -> x.freeze(30, 1));
        asks("lie(4, 500, -1)", x -> x.lie(4, 500, -1));
        asks("lie(4, 30, 3)", x -> x.lie(4, 30, 3));
        asks("expect(9)", x -> x.expect(9));
        asks("buy()", x -> x.buy());
        asks("print(0)", x -> x.print(0));
        asks("print(1)", x -> x.print(1));
        asks("smell(7)", x -> x.smell(7));
        asks("line()", x -> x.line());
        asks("cut(48, true)", x -> x.cut(48, true));
        asks("ill(1, 0)", x -> x.ill(1, 0));
        asks("ill(1, 1)", x -> x.ill(1, 1));
        asks("law(0)", x -> x.law(0));
        asks("law(1)", x -> x.law(1));
        asks("habit(9999, 20, 0)", x -> x.habit(9999, 20, 0));
        asks("habit(9999, 20, 1)", x -> x.habit(9999, 20, 1));
        asks("count(6)", x -> x.count(6));
    }

    /** In the last HOUR; no FOOD is THERE; too many FOODS are told in THE TEXT. */
    private static OffFirst spent() {
        OffFirst x = check.laid("c40,5,2;c40,5,2;o3;f0,0,9,20,1,0;f3,0,7,240,0,1;f0,1,7,30,0,1;g2,3;");
        x.eat(0);
        Check.goBy(x, 99999);
        x.throwOut(1);
        x.eat(2);
        Check.write(x, "f0,0,9,20,1,0;");
        return x;
    }

    private static void aSpentOne() {
        check.sentence("in the last HOUR, none THERE; nothing changes then");
        RefusedTest test = new RefusedTest(RefusedTest::spent);
        test.badNumbers(3, 2);
        for (int n : new int[] {1, 2, 24, 998, 999}) {
            test.refused("hours(" + n + "), above 99999", NO, x -> x.hours(n));
        }
        test.refused("lay() without room", NO, x -> x.lay());
        for (int gone = 0; gone < 3; gone++) {
            int i = gone;
            for (int c = 0; c < 2; c++) {
                int cell = c;
                test.refused("move(" + i + ", " + c + "), not THERE", NO, x -> x.move(i, cell));
                test.refused("offIn(" + i + ", " + c + "), not THERE", NO, x -> x.offIn(i, cell));
            }
            test.refused("eat(" + i + "), not THERE", NO, x -> x.eat(i));
            test.refused("throwOut(" + i + "), not THERE", NO, x -> x.throwOut(i));
            test.refused("ill(" + i + ", 0), 0 in all", NONE, x -> x.ill(i, 0));
        }
        test.refused("freeze(500, 0), none", NONE, x -> x.freeze(500, 0));
        test.refused("freeze(500, 1), none", NONE, x -> x.freeze(500, 1));
        for (int k = 1; k <= 4; k++) {
            int laid = k;
            test.refused("lie(" + k + ", 5, -1), fewer", NONE, x -> x.lie(laid, 5, -1));
        }
        test.refused("line(), none THERE", NONE, x -> x.line());
        test.refused("back(), none KEPT", NO, x -> x.back());
    }

    // ---- numbers that are none that is told

    private static int[] beyond(int least, int most) {
        return new int[] {Integer.MIN_VALUE, least - 1, most + 1, Integer.MAX_VALUE};
    }

    private void badNumbers(int foods, int cells) {
        for (int bad : beyond(1, 8)) {
            refused("write(" + bad + ", 0)", BAD, x -> x.write(bad, 0));
        }
        for (int bad : beyond(1, 999)) {
            refused("hours(" + bad + ")", BAD, x -> x.hours(bad));
        }
        badFoods(foods, cells);
        badCells(cells);
        badPlans();
        badErrors();
    }

    private void badFoods(int foods, int cells) {
        for (int bad : beyond(0, foods - 1)) {
            refused("food(" + bad + ", 0)", BAD, x -> x.food(bad, 0));
            refused("move(" + bad + ", 0)", BAD, x -> x.move(bad, 0));
            refused("make(" + bad + ", 3)", BAD, x -> x.make(bad, 3));
            refused("eat(" + bad + ")", BAD, x -> x.eat(bad));
            refused("throwOut(" + bad + ")", BAD, x -> x.throwOut(bad));
            refused("offIn(" + bad + ", 0)", BAD, x -> x.offIn(bad, 0));
            refused("ill(" + bad + ", 0)", BAD, x -> x.ill(bad, 0));
        }
        for (int i = 0; i < foods; i++) {
            int food = i;
            for (int bad : beyond(0, 6)) {
                refused("food(" + i + ", " + bad + ")", BAD, x -> x.food(food, bad));
            }
            for (int bad : beyond(0, 3)) {
                refused("make(" + i + ", " + bad + ")", BAD, x -> x.make(food, bad));
            }
            for (int bad : beyond(0, cells - 1)) {
                refused("move(" + i + ", " + bad + ")", BAD, x -> x.move(food, bad));
                refused("offIn(" + i + ", " + bad + ")", BAD, x -> x.offIn(food, bad));
            }
            for (int bad : beyond(0, 1)) {
                refused("ill(" + i + ", " + bad + ")", BAD, x -> x.ill(food, bad));
            }
        }
    }

    private void badCells(int cells) {
        for (int bad : beyond(0, cells - 1)) {
            refused("warmth(" + bad + ", 0)", BAD, x -> x.warmth(bad, 0));
        }
        for (int bad : beyond(0, 99999)) {
            refused("warmth(0, " + bad + ")", BAD, x -> x.warmth(0, bad));
        }
    }

    private void badPlans() {
        for (int bad : beyond(0, 500)) {
            refused("lost(" + bad + ")", BAD, x -> x.lost(bad));
            refused("freeze(" + bad + ", 0)", BAD, x -> x.freeze(bad, 0));
            refused("lie(1, " + bad + ", -1)", BAD, x -> x.lie(1, bad, -1));
        }
        for (int bad : beyond(0, 1)) {
            refused("freeze(30, " + bad + ")", BAD, x -> x.freeze(30, bad));
        }
        for (int bad : beyond(1, 4)) {
            refused("plan(" + bad + ", -1)", BAD, x -> x.plan(bad, -1));
            refused("plan(" + bad + ", 0)", BAD, x -> x.plan(bad, 0));
            refused("lie(" + bad + ", 5, -1)", BAD, x -> x.lie(bad, 5, -1));
            refused("lie(" + bad + ", 5, 0)", BAD, x -> x.lie(bad, 5, 0));
        }
        for (int k = 1; k <= 4; k++) {
            int most = k;
            for (int bad : beyond(-1, k - 1)) {
                refused("plan(" + k + ", " + bad + ")", BAD, x -> x.plan(most, bad));
                refused("lie(" + k + ", 5, " + bad + ")", BAD, x -> x.lie(most, 5, bad));
            }
        }
        for (int bad : beyond(0, 9)) {
            refused("expect(" + bad + ")", BAD, x -> x.expect(bad));
        }
    }

    private void badErrors() {
        for (int bad : beyond(0, 1)) {
            refused("print(" + bad + ")", BAD, x -> x.print(bad));
            refused("law(" + bad + ")", BAD, x -> x.law(bad));
            refused("habit(5, 5, " + bad + ")", BAD, x -> x.habit(5, 5, bad));
        }
        for (int bad : beyond(0, 20)) {
            refused("smell(" + bad + ")", BAD, x -> x.smell(bad));
        }
        for (int bad : beyond(1, 48)) {
            refused("cut(" + bad + ", false)", BAD, x -> x.cut(bad, false));
            refused("cut(" + bad + ", true)", BAD, x -> x.cut(bad, true));
        }
        for (int bad : beyond(0, 300)) {
            refused("span(" + bad + ", 48)", BAD, x -> x.span(bad, 48));
        }
        for (int bad : beyond(1, 300)) {
            refused("span(40, " + bad + ")", BAD, x -> x.span(40, bad));
        }
        for (int bad : beyond(0, 9999)) {
            refused("habit(" + bad + ", 5, 0)", BAD, x -> x.habit(bad, 5, 0));
        }
        for (int bad : beyond(1, 20)) {
            refused("habit(5, " + bad + ", 0)", BAD, x -> x.habit(5, bad, 0));
        }
        for (int bad : beyond(0, 9)) {
            refused("count(" + bad + ")", BAD, x -> x.count(bad));
        }
    }
}
