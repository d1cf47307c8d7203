import java.math.BigInteger;
import java.util.ArrayList;
import java.util.List;
import java.util.regex.Matcher;
import java.util.regex.Pattern;

/** The document once more, as slow and plain as can be: hour by hour, by trying everything. To hold answers against. */
final class SlowFridge {
    private static final int BAD = -1, NO = -2, FULL = -3, NONE = -4;
    private static final Pattern ITEM = Pattern.compile("([a-z])([0-9]{1,3}(?:,[0-9]{1,3})*);");

    private static final class Food implements Cloneable {
        int kind;
        int cell;
        int coin;
        int life;
        int printed;
        int sort;
        long age;
        int fate;
        int eatenIn;

        long limit() {
            return 50L * (life + (kind == 2 ? 96 : 0));
        }

        boolean isOff() {
            return age >= limit();
        }

        boolean isThere() {
            return fate == 0;
        }

        void ageIn(int warmth) {
            if (isThere()) {
                age += kind == 3 ? 1 : (10 + warmth) * (kind == 1 ? 2 : 1);
            }
        }

        boolean isOlderThan(Food other) {
            return BigInteger.valueOf(age).multiply(BigInteger.valueOf(other.limit()))
                    .compareTo(BigInteger.valueOf(other.age).multiply(BigInteger.valueOf(limit()))) > 0;
        }

        Food copy() {
            try {
                return (Food) clone();
            } catch (CloneNotSupportedException e) {
                throw new IllegalStateException(e);
            }
        }
    }

    /** What a text tells. */
    private static final class Told {
        final List<int[]> cells = new ArrayList<>();
        final List<Food> foods = new ArrayList<>();
        final List<Integer> dishes = new ArrayList<>();
        final List<Integer> eaters = new ArrayList<>();
        final List<int[]> guests = new ArrayList<>();
        final boolean[] opened = new boolean[24];
        int single = 10;
        int pair = 20;
        int slip = 1;

        /** Takes an item; false if it is not as told. */
        boolean take(char letter, int[] n) {
            int[][] bounds = bounds(letter);
            if (bounds == null || bounds.length != n.length) {
                return false;
            }
            for (int i = 0; i < n.length; i++) {
                if (n[i] < bounds[i][0] || n[i] > bounds[i][1]) {
                    return false;
                }
            }
            switch (letter) {
                case 'c':
                    cells.add(n);
                    return cells.size() <= 6;
                case 'o':
                    opened[n[0]] = true;
                    return true;
                case 'f':
                    Food food = new Food();
                    food.kind = n[0];
                    food.cell = n[1];
                    food.coin = n[2];
                    food.life = n[3];
                    food.printed = n[4];
                    food.sort = n[5];
                    foods.add(food);
                    return foods.size() <= 10;
                case 'd':
                    dishes.add(n[0]);
                    return dishes.size() <= 5;
                case 'e':
                    eaters.add(n[0]);
                    return eaters.size() <= 4;
                case 'g':
                    guests.add(n);
                    return guests.size() <= 6;
                case 'b':
                    single = n[0];
                    pair = n[1];
                    return true;
                default:
                    slip = n[0];
                    return true;
            }
        }

        private int[][] bounds(char letter) {
            switch (letter) {
                case 'c':
                    return new int[][] {{0, 200}, {0, 99}, {1, 10}};
                case 'o':
                    return new int[][] {{0, 23}};
                case 'f':
                    return new int[][] {{0, 3}, {0, cells.size() - 1}, {0, 99}, {1, 240}, {0, 99}, {0, 3}};
                case 'd':
                    return new int[][] {{1, 15}};
                case 'e':
                    return new int[][] {{0, 15}};
                case 'g':
                    return new int[][] {{0, 9}, {1, 99}};
                case 'b':
                    return new int[][] {{1, 99}, {1, 198}};
                case 's':
                    return new int[][] {{0, 4}};
                default:
                    return null;
            }
        }
    }

    private static final class Kept {
        List<Food> foods;
        int hour;
    }

    private final StringBuilder text = new StringBuilder();
    private Told told;
    private List<Food> foods;
    private int hour;
    private final List<int[]> spans = new ArrayList<>();
    private final List<Kept> kept = new ArrayList<>();

    SlowFridge() {
        told = new Told();
        told.take('c', new int[] {40, 5, 10});
        told.take('f', new int[] {0, 0, 9, 48, 3, 0});
        foods = copyOf(told.foods);
    }

    private static List<Food> copyOf(List<Food> foods) {
        List<Food> copy = new ArrayList<>();
        for (Food food : foods) {
            copy.add(food.copy());
        }
        return copy;
    }

    private boolean isFood(int i) {
        return i >= 0 && i < foods.size();
    }

    private boolean isCell(int c) {
        return c >= 0 && c < told.cells.size();
    }

    private int warm(int c, int t) {
        int[] cell = told.cells.get(c);
        return cell[0] + (told.opened[t % 24] ? cell[1] : 0);
    }

    private void goBy(List<Food> some, int from, int n) {
        for (int t = from; t < from + n; t++) {
            for (Food food : some) {
                food.ageIn(warm(food.cell, t));
            }
        }
    }

    private static int offCoin(List<Food> some) {
        int sum = 0;
        for (Food food : some) {
            sum += food.isThere() && food.isOff() ? food.coin : 0;
        }
        return sum;
    }

    private int lostOf(List<Food> some, int n) {
        goBy(some, hour, n);
        return offCoin(some);
    }

    int write(int n, long v) {
        if (n < 1 || n > 8) {
            return BAD;
        }
        if (text.length() + n > 400) {
            return FULL;
        }
        String hex = String.format("%016x", v).substring(16 - 2 * n);
        for (int i = 0; i < n; i++) {
            text.append((char) Integer.parseInt(hex.substring(2 * i, 2 * i + 2), 16));
        }
        return text.length();
    }

    int wipe() {
        int was = text.length();
        text.setLength(0);
        return was;
    }

    private int read(Told into) {
        Matcher matcher = ITEM.matcher(text);
        int place = 0;
        while (place < text.length()) {
            matcher.region(place, text.length());
            if (!matcher.lookingAt()) {
                return place;
            }
            String[] figures = matcher.group(2).split(",");
            int[] numbers = new int[figures.length];
            for (int i = 0; i < figures.length; i++) {
                numbers[i] = Integer.parseInt(figures[i]);
            }
            if (!into.take(matcher.group(1).charAt(0), numbers)) {
                return place;
            }
            place = matcher.end();
        }
        return NONE;
    }

    int fault() {
        return read(new Told());
    }

    int lay() {
        Told anew = new Told();
        if (read(anew) != NONE || anew.cells.isEmpty() || anew.foods.isEmpty()) {
            return NO;
        }
        int[] in = new int[anew.cells.size()];
        for (Food food : anew.foods) {
            in[food.cell]++;
            if (in[food.cell] > anew.cells.get(food.cell)[2]) {
                return NO;
            }
        }
        told = anew;
        foods = copyOf(anew.foods);
        hour = 0;
        spans.clear();
        kept.clear();
        return foods.size();
    }

    int food(int i, int what) {
        if (!isFood(i) || what < 0 || what > 6) {
            return BAD;
        }
        Food food = foods.get(i);
        long[] all = {food.kind, food.cell, food.age, food.limit(), food.fate, food.isOff() ? 1 : 0, food.sort};
        return (int) all[what];
    }

    int warmth(int c, int t) {
        return !isCell(c) || t < 0 || t > 99999 ? BAD : warm(c, t);
    }

    int hours(int n) {
        if (n < 1 || n > 999) {
            return BAD;
        }
        if (hour + n > 99999) {
            return NO;
        }
        goBy(foods, hour, n);
        hour += n;
        int off = 0;
        for (Food food : foods) {
            off += food.isThere() && food.isOff() ? 1 : 0;
        }
        return off;
    }

    private int numberIn(int c) {
        int in = 0;
        for (Food food : foods) {
            in += food.isThere() && food.cell == c ? 1 : 0;
        }
        return in;
    }

    int move(int i, int c) {
        if (!isFood(i) || !isCell(c)) {
            return BAD;
        }
        Food food = foods.get(i);
        if (!food.isThere() || food.cell == c || numberIn(c) + 1 > told.cells.get(c)[2]) {
            return NO;
        }
        food.cell = c;
        return numberIn(c);
    }

    int make(int i, int k) {
        if (!isFood(i) || k < 0 || k > 3) {
            return BAD;
        }
        Food food = foods.get(i);
        int was = food.kind;
        boolean can = k == 0 ? was == 3 : k == 1 ? was == 0 : k == 2 ? was == 0 || was == 1 : was != 3;
        if (!food.isThere() || !can) {
            return NO;
        }
        food.kind = k == 0 ? 1 : k;
        return was;
    }

    private int take(int i, int fate) {
        if (!isFood(i)) {
            return BAD;
        }
        Food food = foods.get(i);
        if (!food.isThere()) {
            return NO;
        }
        food.fate = fate;
        food.eatenIn = hour;
        return food.isOff() ? 1 : 0;
    }

    int eat(int i) {
        return take(i, 1);
    }

    int throwOut(int i) {
        return take(i, 2);
    }

    int offIn(int i, int c) {
        if (!isFood(i) || !isCell(c)) {
            return BAD;
        }
        if (!foods.get(i).isThere()) {
            return NO;
        }
        Food food = foods.get(i).copy();
        for (int h = 0; h <= 5000; h++) {
            if (food.isOff()) {
                return h;
            }
            food.ageIn(warm(c, hour + h));
        }
        return NONE;
    }

    int lost(int n) {
        return n < 0 || n > 500 ? BAD : lostOf(copyOf(foods), n);
    }

    /** The foods as each of the next evenings begins, if none is taken. */
    private List<List<Food>> evenings(int number) {
        List<List<Food>> all = new ArrayList<>();
        List<Food> now = copyOf(foods);
        for (int t = hour; all.size() < number; t++) {
            if (t % 24 == 18) {
                all.add(copyOf(now));
            }
            goBy(now, t, 1);
        }
        return all;
    }

    int plan(int e, int i) {
        if (e < 1 || e > 4 || i < -1 || i >= e) {
            return BAD;
        }
        List<List<Food>> evenings = evenings(e);
        int choices = told.dishes.size() + 1;
        int rows = 1;
        for (int k = 0; k < e; k++) {
            rows *= choices;
        }
        int least = Integer.MAX_VALUE;
        int first = 0;
        for (int row = 0; row < rows; row++) {
            int cost = costOfRow(evenings, row, rows, choices);
            if (cost >= 0 && cost < least) {
                least = cost;
                first = row;
            }
        }
        if (i == -1) {
            return least;
        }
        for (int k = e - 1; k > i; k--) {
            first /= choices;
        }
        return first % choices == 0 ? NONE : first % choices - 1;
    }

    /** -1 if a dish of the row can not be. */
    private int costOfRow(List<List<Food>> evenings, int row, int rows, int choices) {
        boolean[] taken = new boolean[foods.size()];
        int cost = 0;
        int part = rows;
        int rest = row;
        for (List<Food> evening : evenings) {
            part /= choices;
            int dish = rest / part - 1;
            rest %= part;
            int sorts = dish < 0 ? 0 : told.dishes.get(dish);
            for (int s = 0; s < 4; s++) {
                if ((sorts >> s & 1) == 1) {
                    int oldest = -1;
                    for (int f = 0; f < evening.size(); f++) {
                        Food food = evening.get(f);
                        if (food.sort == s && food.isThere() && !taken[f] && !food.isOff()
                                && (oldest < 0 || food.isOlderThan(evening.get(oldest)))) {
                            oldest = f;
                        }
                    }
                    if (oldest < 0) {
                        return -1;
                    }
                    taken[oldest] = true;
                }
            }
            for (int eater : told.eaters) {
                cost += dish < 0 || (eater & sorts) > 0 ? 10 : 0;
            }
        }
        List<Food> last = evenings.get(evenings.size() - 1);
        for (int f = 0; f < last.size(); f++) {
            cost += last.get(f).isThere() && !taken[f] && last.get(f).isOff() ? last.get(f).coin : 0;
        }
        return cost;
    }

    int freeze(int n, int what) {
        if (n < 0 || n > 500 || what < 0 || what > 1) {
            return BAD;
        }
        int least = lost(n);
        int best = NONE;
        for (int i = 0; i < foods.size(); i++) {
            if (foods.get(i).isThere() && foods.get(i).kind != 3) {
                List<Food> frozen = copyOf(foods);
                frozen.get(i).kind = 3;
                int then = lostOf(frozen, n);
                if (then < least) {
                    least = then;
                    best = i;
                }
            }
        }
        return best == NONE ? NONE : what == 0 ? best : least;
    }

    int lie(int k, int n, int i) {
        if (k < 1 || k > 4 || n < 0 || n > 500 || i < -1 || i >= k) {
            return BAD;
        }
        List<Integer> firsts = new ArrayList<>();
        for (int f = 0; f < foods.size() && firsts.size() < k; f++) {
            if (foods.get(f).isThere()) {
                firsts.add(f);
            }
        }
        if (firsts.size() < k) {
            return NONE;
        }
        int cells = told.cells.size();
        // What each food costs in each cell.
        int[][] costs = new int[foods.size()][cells];
        for (int f = 0; f < foods.size(); f++) {
            for (int c = 0; c < cells; c++) {
                Food food = foods.get(f).copy();
                food.cell = c;
                costs[f][c] = lostOf(List.of(food), n);
            }
        }
        int ways = 1;
        for (int j = 0; j < k; j++) {
            ways *= cells;
        }
        int least = Integer.MAX_VALUE;
        int[] best = new int[k];
        for (int way = 0; way < ways; way++) {
            int[] cell = new int[foods.size()];
            for (int f = 0; f < foods.size(); f++) {
                cell[f] = foods.get(f).cell;
            }
            int rest = way;
            for (int j = k - 1; j >= 0; j--) {
                cell[firsts.get(j)] = rest % cells;
                rest /= cells;
            }
            int lost = 0;
            int[] in = new int[cells];
            boolean fits = true;
            for (int f = 0; f < foods.size(); f++) {
                if (foods.get(f).isThere()) {
                    lost += costs[f][cell[f]];
                    fits &= ++in[cell[f]] <= told.cells.get(cell[f])[2];
                }
            }
            if (fits && lost < least) {
                least = lost;
                for (int j = 0; j < k; j++) {
                    best[j] = cell[firsts.get(j)];
                }
            }
        }
        return i < 0 ? least : best[i];
    }

    int expect(int q) {
        if (q < 0 || q > 9) {
            return BAD;
        }
        if (told.guests.isEmpty()) {
            return NONE;
        }
        int inTwos = q % 2 == 0 ? q / 2 * told.pair : (q - 1) / 2 * told.pair + told.single;
        int sum = 0;
        for (int[] guests : told.guests) {
            int cost = Math.min(q * told.single, inTwos);
            for (int g = q; g < guests[0]; g++) {
                cost += 15;
            }
            sum += guests[1] * cost;
        }
        return sum;
    }

    int buy() {
        if (told.guests.isEmpty()) {
            return NONE;
        }
        int best = 9;
        for (int q = 8; q >= 0; q--) {
            best = expect(q) <= expect(best) ? q : best;
        }
        return best;
    }

    int print(int what) {
        if (what < 0 || what > 1) {
            return BAD;
        }
        int[] errors = new int[2];
        for (Food food : foods) {
            if (food.isThere()) {
                if (hour / 24 > food.printed) {
                    errors[0] += food.isOff() ? 0 : 1;
                } else {
                    errors[1] += food.isOff() ? 1 : 0;
                }
            }
        }
        return errors[what];
    }

    int smell(int t) {
        if (t < 0 || t > 20) {
            return BAD;
        }
        int errors = 0;
        for (Food food : foods) {
            if (food.isThere()) {
                boolean smells = 10 * food.age >= t * food.limit();
                if (food.isOff()) {
                    errors += smells ? told.slip : 10 - told.slip;
                } else {
                    errors += smells ? 10 - told.slip : told.slip;
                }
            }
        }
        return errors;
    }

    int line() {
        if (count(7) == 0) {
            return NONE;
        }
        int best = 20;
        for (int t = 19; t >= 0; t--) {
            best = smell(t) <= smell(best) ? t : best;
        }
        return best;
    }

    int cut(int n, boolean opened) {
        if (n < 1 || n > 48) {
            return BAD;
        }
        List<Food> then = copyOf(foods);
        int bits = 0;
        for (int i = 0; i < then.size(); i++) {
            Food food = then.get(i);
            for (int k = 1; k <= n; k++) {
                int[] cell = told.cells.get(food.cell);
                food.ageIn(cell[0] + 3 * k + (k == 1 && opened ? cell[1] : 0));
            }
            bits += food.isThere() && food.isOff() ? 1 << i : 0;
        }
        return bits;
    }

    int ill(int i, int part) {
        if (!isFood(i) || part < 0 || part > 1) {
            return BAD;
        }
        BigInteger all = BigInteger.ZERO;
        BigInteger own = BigInteger.ZERO;
        for (int f = 0; f < foods.size(); f++) {
            Food food = foods.get(f);
            int b = hour - food.eatenIn;
            if (food.fate == 1 && b >= 6 && b <= 72) {
                BigInteger weight = BigInteger.valueOf(10 * food.age / food.limit() * (b <= 24 ? 2 : 1));
                all = all.add(weight);
                own = f == i ? weight : own;
            }
        }
        if (all.signum() == 0) {
            return NONE;
        }
        return (part == 0 ? own : all).divide(all.gcd(own)).intValueExact();
    }

    int span(int w, int h) {
        if (w < 0 || w > 300 || h < 1 || h > 300) {
            return BAD;
        }
        if (spans.size() == 8) {
            return FULL;
        }
        spans.add(new int[] {w, h});
        return spans.size();
    }

    int noSpans() {
        int were = spans.size();
        spans.clear();
        return were;
    }

    int law(int what) {
        if (what < 0 || what > 1) {
            return BAD;
        }
        int most = -1;
        int best = 0;
        for (int b = 0; b <= 40; b++) {
            int fits = 0;
            for (int[] span : spans) {
                // The first hour behind which it is off.
                int age = 0;
                int h = 0;
                while (age < 2400 && h <= 2400) {
                    age += b + span[0];
                    h++;
                }
                fits += age >= 2400 && h == span[1] ? 1 : 0;
            }
            if (fits > most) {
                most = fits;
                best = b;
            }
        }
        return what == 0 ? most : best;
    }

    int habit(int z, int n, int rule) {
        if (z < 0 || z > 9999 || n < 1 || n > 20 || rule < 0 || rule > 1) {
            return BAD;
        }
        List<Food> now = copyOf(foods);
        int cost = 0;
        int k = 0;
        for (int t = hour; k < n; t++) {
            if (t % 24 == 18) {
                BigInteger x = BigInteger.valueOf(7919L * z + 6151L * k + 1);
                if (x.pow(2).mod(BigInteger.valueOf(65521)).intValue() % 3 != 0) {
                    Food taken = null;
                    for (Food food : now) {
                        if (food.isThere() && (taken == null || rule == 0 || food.isOlderThan(taken))) {
                            taken = food;
                        }
                    }
                    if (taken != null) {
                        cost += taken.isOff() ? taken.coin : 0;
                        taken.fate = 1;
                    }
                }
                k++;
            }
            if (k < n) {
                goBy(now, t, 1);
            }
        }
        return cost + offCoin(now);
    }

    int keep() {
        if (kept.size() == 2) {
            return FULL;
        }
        Kept now = new Kept();
        now.foods = copyOf(foods);
        now.hour = hour;
        kept.add(now);
        return kept.size();
    }

    int back() {
        if (kept.isEmpty()) {
            return NO;
        }
        Kept last = kept.remove(kept.size() - 1);
        foods = last.foods;
        hour = last.hour;
        return kept.size();
    }

    int count(int what) {
        int there = 0;
        for (Food food : foods) {
            there += food.isThere() ? 1 : 0;
        }
        int[] all = {foods.size(), told.cells.size(), told.dishes.size(), told.eaters.size(), told.guests.size(),
            spans.size(), hour, there, text.length(), kept.size()};
        return what < 0 || what >= all.length ? BAD : all[what];
    }
}
