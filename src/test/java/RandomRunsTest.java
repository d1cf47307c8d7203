import java.util.Random;

/** Runs of drawn calls, each answer held against SlowFridge. The seeds are fixed: each run is the same each time. */
public final class RandomRunsTest {
    /** An object is good for 512 calls; what is drawn beyond them is not asked. */
    private static final int RUNS = 500, DRAWS = 320, CALLS = 512;
    private static final String[] FACE = {"write", "wipe", "fault", "lay", "food", "warmth", "hours", "move", "make",
        "eat", "throwOut", "offIn", "lost", "plan", "freeze", "lie", "expect", "buy", "print", "smell", "line", "cut",
        "ill", "span", "noSpans", "law", "habit", "keep", "back", "count"};
    /** How often each of them is drawn. */
    private static final int[] OFTEN = {2, 0, 2, 0, 8, 4, 8, 8, 6, 2, 1, 10, 6, 10, 8, 10, 3, 2, 4, 6, 4, 8, 8, 5, 0, 4,
        12, 2, 1, 4};

    private final Check check;
    private final Random draws;
    private final OffFirst x = new OffFirst();
    private final SlowFridge slow = new SlowFridge();
    private final StringBuilder log = new StringBuilder();
    private int calls;
    private int foods = 1;
    private int cells = 1;

    private RandomRunsTest(Check check, long seed) {
        this.check = check;
        this.draws = new Random(seed);
    }

    public static void main(String[] args) {
        Check check = new Check("RandomRunsTest");
        for (int seed = 0; seed < RUNS && !check.isWrong(); seed++) {
            RandomRunsTest run = new RandomRunsTest(check, seed);
            run.go(DRAWS);
            if (check.isWrong()) {
                System.out.println("seed " + seed + ": " + run.log);
            }
        }
        check.end();
    }

    private void go(int many) {
        for (int call = 0; call < many && !check.isWrong(); call++) {
            if (draws.nextInt(60) == 0 || call == 0 && draws.nextInt(4) > 0) {
                tellText();
            }
            drawCall();
        }
        for (int i = -1; i <= foods; i++) {
            for (int what = -1; what <= 7; what++) {
                ask("food", i, what, 0);
            }
        }
        for (int what = -1; what <= 10; what++) {
            ask("count", what, 0, 0);
        }
    }

    // ---- texts

    private void tellText() {
        ask("wipe", 0, 0, 0);
        StringBuilder text = new StringBuilder(drawText());
        if (draws.nextInt(5) == 0) {
            spoil(text);
        }
        for (int from = 0; from < text.length(); from += 8) {
            int n = Math.min(8, text.length() - from);
            long v = draws.nextLong();
            for (int i = 0; i < n; i++) {
                v = v << 8 | text.charAt(from + i);
            }
            write(n, v);
        }
        ask("fault", 0, 0, 0);
        ask("lay", 0, 0, 0);
        foods = slow.count(0);
        cells = slow.count(1);
    }

    private void spoil(StringBuilder text) {
        int place = draws.nextInt(text.length());
        switch (draws.nextInt(3)) {
            case 0:
                text.deleteCharAt(place);
                break;
            case 1:
                text.insert(place, "0123456789,;cofdegbsx".charAt(draws.nextInt(21)));
                break;
            default:
                text.setCharAt(place, (char) draws.nextInt(256));
                break;
        }
    }

    /** A number from low to high, now and then just one beside. */
    private int num(int low, int high) {
        if (draws.nextInt(700) == 0) {
            return draws.nextBoolean() ? Math.max(low - 1, 0) : high + 1;
        }
        switch (draws.nextInt(12)) {
            case 0:
                return low;
            case 1:
                return high;
            default:
                return low + draws.nextInt(high - low + 1);
        }
    }

    private String drawText() {
        StringBuilder text = new StringBuilder();
        int cellNumber = 1 + draws.nextInt(6);
        int foodNumber = 1 + draws.nextInt(10);
        boolean cramped = draws.nextInt(3) == 0;
        int[] free = new int[cellNumber];
        for (int c = 0; c < cellNumber; c++) {
            free[c] = cramped ? 1 + draws.nextInt(4) : num(1, 10);
            text.append('c').append(num(0, draws.nextInt(3) == 0 ? 200 : 60)).append(',').append(num(0, 99))
                    .append(',').append(free[c]).append(';');
        }
        for (int o = draws.nextInt(6); o > 0; o--) {
            text.append('o').append(num(0, 23)).append(';');
        }
        int longest = draws.nextInt(4) == 0 ? 240 : 10 + draws.nextInt(60);
        boolean alike = draws.nextInt(3) == 0;
        int[] kinds = {0, 0, 0, 1, 1, 2, 3};
        for (int f = 0; f < foodNumber; f++) {
            int c = draws.nextInt(cellNumber);
            for (int tries = 0; tries < 20 && free[c] <= 0; tries++) {
                c = draws.nextInt(cellNumber);
            }
            free[c]--;
            text.append('f').append(kinds[draws.nextInt(7)]).append(',').append(c).append(',')
                    .append(alike ? num(8, 10) : num(0, 99)).append(',')
                    .append(alike ? 10 * num(1, 3) : num(1, longest)).append(',').append(num(0, 9)).append(',')
                    .append(num(0, 3)).append(';');
        }
        for (int d = draws.nextInt(6); d > 0; d--) {
            text.append('d').append(draws.nextBoolean() ? 1 << draws.nextInt(4) : num(1, 15)).append(';');
        }
        for (int e = draws.nextInt(5); e > 0; e--) {
            text.append('e').append(num(0, 15)).append(';');
        }
        for (int g = draws.nextInt(7); g > 0; g--) {
            text.append('g').append(num(0, 9)).append(',').append(num(1, 99)).append(';');
        }
        for (int b = draws.nextInt(3); b > 0; b--) {
            text.append('b').append(num(1, 30)).append(',').append(num(1, 60)).append(';');
        }
        for (int s = draws.nextInt(3); s > 0; s--) {
            text.append('s').append(num(0, 4)).append(';');
        }
        if (text.length() > 400) {
            text.setLength(400);
        }
        return text.toString();
    }

    // ---- calls

    private void drawCall() {
        int all = 0;
        for (int often : OFTEN) {
            all += often;
        }
        int draw = draws.nextInt(all);
        int which = 0;
        while (draw >= OFTEN[which]) {
            draw -= OFTEN[which];
            which++;
        }
        if (draws.nextInt(400) == 0) {
            which = draws.nextInt(FACE.length);
        }
        String name = FACE[which];
        switch (name) {
            case "write":
                if (draws.nextInt(8) == 0) {
                    write(in(-1, 9), draws.nextLong());
                }
                break;
            case "food":
                ask(name, aFood(), in(0, 6), 0);
                break;
            case "warmth":
                ask(name, aCell(), draws.nextBoolean() ? in(0, 99999) : in(0, 50), 0);
                break;
            case "hours":
                ask(name, draws.nextInt(30) == 0 ? in(1, 999) : in(1, 20), 0, 0);
                break;
            case "move":
            case "offIn":
                ask(name, aFood(), aCell(), 0);
                break;
            case "make":
                ask(name, aFood(), in(0, 3), 0);
                break;
            case "eat":
            case "throwOut":
                ask(name, aFood(), 0, 0);
                break;
            case "lost":
                ask(name, some(500), 0, 0);
                break;
            case "plan":
                int e = in(1, 4);
                ask(name, e, in(-1, Math.max(e, 1) % 5 - 1), 0);
                break;
            case "freeze":
                ask(name, some(500), in(0, 1), 0);
                break;
            case "lie":
                int k = in(1, 4);
                ask(name, k, some(500), in(-1, Math.max(k, 1) % 5 - 1));
                break;
            case "expect":
                ask(name, in(0, 9), 0, 0);
                break;
            case "smell":
                ask(name, in(0, 20), 0, 0);
                break;
            case "cut":
                ask(name, in(1, 48), in(0, 1), 0);
                break;
            case "ill":
                ask(name, aFood(), in(0, 1), 0);
                break;
            case "span":
                drawSpan();
                break;
            case "print":
            case "law":
                ask(name, in(0, 1), 0, 0);
                break;
            case "habit":
                ask(name, in(0, 9999), in(1, draws.nextBoolean() ? 20 : 5), in(0, 1));
                break;
            case "count":
                ask(name, in(0, 9), 0, 0);
                break;
            default:
                ask(name, 0, 0, 0);
                break;
        }
        foods = slow.count(0);
        cells = slow.count(1);
    }

    /** Mostly such that some law fits. */
    private void drawSpan() {
        int w = in(0, 300);
        int rate = Math.max(w + draws.nextInt(41), 1);
        int h = draws.nextInt(4) == 0 ? in(1, 300) : Math.min((2400 + rate - 1) / rate, 301);
        ask("span", w, h, 0);
    }

    /** A number from low to high, now and then one beyond. */
    private int in(int low, int high) {
        int draw = draws.nextInt(80);
        if (draw == 0) {
            return low - 1;
        }
        if (draw == 1) {
            return high + 1;
        }
        if (draw == 2) {
            return draws.nextInt();
        }
        return low + draws.nextInt(high - low + 1);
    }

    private int some(int most) {
        return draws.nextInt(3) == 0 ? in(0, most) : in(0, 60);
    }

    private int aFood() {
        return in(0, foods - 1);
    }

    private int aCell() {
        return in(0, cells - 1);
    }

    private void write(int n, long v) {
        if (calls >= CALLS) {
            return;
        }
        calls++;
        log.append(" write(").append(n).append(", ").append(v).append("L)");
        check.due("write(" + n + ", " + v + "L)", x.write(n, v), slow.write(n, v));
    }

    private void ask(String name, int a, int b, int c) {
        if (calls >= CALLS) {
            return;
        }
        calls++;
        String call = name + "(" + a + ", " + b + ", " + c + ")";
        log.append(' ').append(call);
        switch (name) {
            case "wipe" -> check.due(call, x.wipe(), slow.wipe());
            case "fault" -> check.due(call, x.fault(), slow.fault());
            case "lay" -> check.due(call, x.lay(), slow.lay());
            case "food" -> check.due(call, x.food(a, b), slow.food(a, b));
            case "warmth" -> check.due(call, x.warmth(a, b), slow.warmth(a, b));
            case "hours" -> check.due(call, x.hours(a), slow.hours(a));
            case "move" -> check.due(call, x.move(a, b), slow.move(a, b));
            case "make" -> check.due(call, x.make(a, b), slow.make(a, b));
            case "eat" -> check.due(call, x.eat(a), slow.eat(a));
            case "throwOut" -> check.due(call, x.throwOut(a), slow.throwOut(a));
            case "offIn" -> check.due(call, x.offIn(a, b), slow.offIn(a, b));
            case "lost" -> check.due(call, x.lost(a), slow.lost(a));
            case "plan" -> check.due(call, x.plan(a, b), slow.plan(a, b));
            case "freeze" -> check.due(call, x.freeze(a, b), slow.freeze(a, b));
            case "lie" -> check.due(call, x.lie(a, b, c), slow.lie(a, b, c));
            case "expect" -> check.due(call, x.expect(a), slow.expect(a));
            case "buy" -> check.due(call, x.buy(), slow.buy());
            case "print" -> check.due(call, x.print(a), slow.print(a));
            case "smell" -> check.due(call, x.smell(a), slow.smell(a));
            case "line" -> check.due(call, x.line(), slow.line());
            case "cut" -> check.due(call, x.cut(a, b == 1), slow.cut(a, b == 1));
            case "ill" -> check.due(call, x.ill(a, b), slow.ill(a, b));
            case "span" -> check.due(call, x.span(a, b), slow.span(a, b));
            case "noSpans" -> check.due(call, x.noSpans(), slow.noSpans());
            case "law" -> check.due(call, x.law(a), slow.law(a));
            case "habit" -> check.due(call, x.habit(a, b, c), slow.habit(a, b, c));
            case "keep" -> check.due(call, x.keep(), slow.keep());
            case "back" -> check.due(call, x.back(), slow.back());
            case "count" -> check.due(call, x.count(a), slow.count(a));
            default -> check.holds("there is a call " + name, false);
        }
    }
}
