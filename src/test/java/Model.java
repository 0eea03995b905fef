import java.util.ArrayList;
import java.util.Arrays;
import java.util.List;

/**
 * The document once more, as plainly as can be and with no care for room or time: what ModelTest holds
 * the class against. Where there is a choice of ways, it takes another one than the class.
 */
final class Model {
    static final class Thing {
        int[] numbers = {0, 0, 0, 6, 1, 12, 0, 7};
        int tint;
        boolean gone;

        int of(int what) {
            return numbers[what];
        }
    }

    static final class Change {
        int number;
        int what;
        int was;
        int is;
    }

    static final class Row {
        int sort;
        long[] elements;
    }

    static final class Image {
        List<int[]> things = new ArrayList<>();
        int[] led;
    }

    /** A place in the text at which it cannot go on. */
    static final class Fault extends RuntimeException {
        private static final long serialVersionUID = 1;
        final int place;

        Fault(int place) {
            this.place = place;
        }
    }

    private static final int[] LEAST = {0, 0, 0, 3, 1, 1, 0, 0, 1, 0, 1, 1};
    private static final int[] MOST = {3, 9, 99, 9, 9, 99, 8, 30, 60, 99, 9, 60};

    private final List<Thing> things = new ArrayList<>();
    private final int[] house = {15, 6, 3, 20};
    private String tape = "";
    private String law;
    private List<Change> done = new ArrayList<>();
    private List<Change> undone = new ArrayList<>();
    private int[] led = new int[4];
    private Image image;
    private final List<Integer> bodies = new ArrayList<>();
    private List<Integer> trace = new ArrayList<>();
    private final Object[] shelves = new Object[6];

    // ---- things

    public int thing(int colour, int size) {
        if (colour < 0 || colour > 3 || size < 1 || size > 9) {
            return -1;
        }
        if (things.size() == 10) {
            return -3;
        }
        Thing t = new Thing();
        t.numbers[0] = colour;
        t.numbers[4] = size;
        things.add(t);
        return things.size() - 1;
    }

    public int things(int shelf, int i, int n) {
        if (shelf < 0 || shelf > 5 || n < 1 || n > 10) {
            return -1;
        }
        if (shelves[shelf] == null) {
            return 0;
        }
        if (!(shelves[shelf] instanceof Row) || ((Row) shelves[shelf]).sort != 0) {
            return -12;
        }
        long[] e = ((Row) shelves[shelf]).elements;
        int came = 0;
        for (long at = i; came < n; at += 3) {
            if (at < 0 || at + 2 >= e.length || things.size() == 10) {
                break;
            }
            long dye = e[(int) at + 1];
            if (dye < 0 || dye > 9 || thing((int) e[(int) at], (int) e[(int) at + 2]) < 0) {
                break;
            }
            things.get(things.size() - 1).numbers[1] = (int) dye;
            came++;
        }
        return came;
    }

    public int mend(int number, int what, int v) {
        if (what < 0 || what > 11 || v < LEAST[what] || v > MOST[what]) {
            return -1;
        }
        if (what >= 8 ? number != 0 : !isThing(number)) {
            return -1;
        }
        Change c = new Change();
        c.number = number;
        c.what = what;
        c.was = of(number, what);
        c.is = v;
        if (c.was != v) {
            set(c, v);
            done.add(c);
            undone.clear();
            if (done.size() > 40) {
                done.remove(0);
            }
        }
        return c.was;
    }

    private void set(Change c, int v) {
        if (c.what >= 8) {
            house[c.what - 8] = v;
        } else {
            things.get(c.number).numbers[c.what] = v;
        }
    }

    public int of(int number, int what) {
        if (what >= 8 && what <= 11) {
            return number == 0 ? house[what - 8] : -1;
        }
        if (what < 0 || what > 13 || !isThing(number)) {
            return -1;
        }
        Thing t = things.get(number);
        if (what == 12) {
            return t.tint;
        }
        return what == 13 ? (t.gone ? 1 : 0) : t.of(what);
    }

    private boolean isThing(int number) {
        return number >= 0 && number < things.size();
    }

    public int feed(int letter) {
        if (letter < 0 || letter > 255) {
            return -1;
        }
        if (tape.length() == 120) {
            return -3;
        }
        tape += (char) letter;
        return tape.length();
    }

    public int law() {
        String text = tape;
        tape = "";
        try {
            new Reader(text, new int[6]).text();
        } catch (Fault f) {
            return -100 - f.place;
        }
        law = text;
        return 1;
    }

    /** Reads a text by recursive descent and works it out at once. */
    static final class Reader {
        private final String text;
        private final int[] names;
        private int at;
        private int open;

        Reader(String text, int[] names) {
            this.text = text;
            this.names = names;
        }

        private boolean sees(String some) {
            return at < text.length() && some.indexOf(text.charAt(at)) >= 0;
        }

        int text() {
            Integer result = null;
            do {
                int value = expression();
                Integer counts = value;
                if (sees("?")) {
                    at++;
                    int second = expression();
                    counts = value != 0 ? second : null;
                }
                if (result == null) {
                    result = counts;
                }
                if (at == text.length()) {
                    return result == null ? 0 : result;
                }
                if (!sees(";")) {
                    throw new Fault(at);
                }
                at++;
            } while (true);
        }

        int expression() {
            int v = a();
            while (sees("|")) {
                at++;
                int w = a();
                v = v != 0 | w != 0 ? 1 : 0;
            }
            return v;
        }

        int a() {
            int v = b();
            while (sees("&")) {
                at++;
                int w = b();
                v = v != 0 & w != 0 ? 1 : 0;
            }
            return v;
        }

        int b() {
            int v = s();
            if (sees("<=>")) {
                char c = text.charAt(at++);
                int w = s();
                v = (c == '<' ? v < w : c == '=' ? v == w : v > w) ? 1 : 0;
            }
            return v;
        }

        int s() {
            int v = p();
            while (sees("+-")) {
                v = text.charAt(at++) == '+' ? v + p() : v - p();
            }
            return v;
        }

        int p() {
            int v = o();
            while (sees("*/%")) {
                char c = text.charAt(at++);
                int w = o();
                v = c == '*' ? v * w : w == 0 ? 0 : c == '/' ? v / w : v % w;
            }
            return v;
        }

        int o() {
            if (sees("0123456789")) {
                int begin = at;
                while (at - begin < 4 && sees("0123456789")) {
                    at++;
                }
                return Integer.parseInt(text.substring(begin, at));
            }
            if (sees("rnhcsb")) {
                return names["rnhcsb".indexOf(text.charAt(at++))];
            }
            if (!sees("(!-") || open == 6) {
                throw new Fault(at);
            }
            open++;
            char c = text.charAt(at++);
            int v = c == '(' ? expression() : o();
            if (c == '(') {
                if (!sees(")")) {
                    throw new Fault(at);
                }
                at++;
            }
            open--;
            return c == '(' ? v : c == '!' ? (v == 0 ? 1 : 0) : -v;
        }
    }

    private int dye(int thing, int r, int n, int h) {
        Thing t = things.get(thing);
        if (law == null) {
            return (r > n ? r - n : 0) * h / 3;
        }
        int v = new Reader(law, new int[] {r, n, h, t.of(0), t.of(4), t.of(3)}).text();
        return v < 0 ? 0 : v > 99 ? 99 : v;
    }

    private int dye(int thing, int h) {
        return dye(thing, things.get(thing).of(1), things.get(thing).of(2), h);
    }

    public int gives(int thing, int heat) {
        return isThing(thing) && isHeat(heat) ? dye(thing, heat) : -1;
    }

    private static boolean isHeat(int heat) {
        return heat >= 3 && heat <= 9;
    }

    // ---- a run in thought

    private boolean isSet(int set) {
        return set >= 0 && set < 1 << things.size();
    }

    private static boolean isHc(int hc) {
        return hc >= 30 && hc <= 91 && hc % 10 <= 1;
    }

    private static boolean isHt(int ht) {
        return ht >= 300 && ht <= 999;
    }

    private List<Integer> members(int set) {
        List<Integer> all = new ArrayList<>();
        for (int i = 0; i < things.size(); i++) {
            if ((set & 1 << i) != 0) {
                all.add(i);
            }
        }
        return all;
    }

    private int loose(int set, int heat, int caught) {
        int all = 0;
        for (int i : members(set)) {
            all += dye(i, heat);
        }
        return all > caught ? all - caught : 0;
    }

    private int tintOf(int thing, int loose, int own) {
        int by = loose > own ? loose - own : 0;
        return new int[] {by, by / 2, by / 10, 0}[things.get(thing).of(0)];
    }

    private int tints(int set, int heat, int caught) {
        int all = 0;
        for (int i : members(set)) {
            all += tintOf(i, loose(set, heat, caught), dye(i, heat));
        }
        return all;
    }

    private int spoilt(int set, int heat) {
        int bits = 0;
        for (int i : members(set)) {
            bits += things.get(i).of(3) < heat ? 1 << i : 0;
        }
        return bits;
    }

    private boolean goes(int set) {
        int size = 0;
        for (int i : members(set)) {
            size += things.get(i).gone ? 1000 : things.get(i).of(4);
        }
        return size <= house[0];
    }

    private boolean isSafe(int set, int heat, int caught, int t) {
        for (int i : members(set)) {
            if (tintOf(i, loose(set, heat, caught), dye(i, heat)) > t) {
                return false;
            }
        }
        return goes(set) && spoilt(set, heat) == 0;
    }

    private int caught(int hc) {
        return hc % 10 == 1 ? house[1] : 0;
    }

    public int run(int set, int hc, int what) {
        if (!isSet(set) || !isHc(hc) || what < 0 || what > 3) {
            return -1;
        }
        int h = hc / 10;
        return new int[] {loose(set, h, caught(hc)), tints(set, h, caught(hc)), spoilt(set, h),
            goes(set) ? 1 : 0}[what];
    }

    public int tint(int set, int hc, int thing) {
        if (!isSet(set) || !isHc(hc) || !members(set).contains(thing)) {
            return -1;
        }
        return tintOf(thing, loose(set, hc / 10, caught(hc)), dye(thing, hc / 10));
    }

    public int safe(int set, int hc, int t) {
        if (!isSet(set) || !isHc(hc) || t < 0 || t > 99) {
            return -1;
        }
        return isSafe(set, hc / 10, caught(hc), t) ? 1 : 0;
    }

    public int together(int thing, int ht) {
        if (!isThing(thing) || !isHt(ht)) {
            return -1;
        }
        int bits = 0;
        for (int i = 0; i < things.size(); i++) {
            if (i != thing && isSafe(1 << i | 1 << thing, ht / 100, 0, ht % 100)) {
                bits += 1 << i;
            }
        }
        return bits;
    }

    public int heat(int set, int t) {
        if (!isSet(set) || t < 0 || t > 99) {
            return -1;
        }
        int best = -2;
        for (int h = 3; h <= 9; h++) {
            best = isSafe(set, h, 0, t) ? h : best;
        }
        return best;
    }

    public int cloths(int set, int ht) {
        if (!isSet(set) || !isHt(ht)) {
            return -1;
        }
        int best = -2;
        for (int n = 9; n >= 0; n--) {
            best = isSafe(set, ht / 100, n * house[1], ht % 100) ? n : best;
        }
        return best;
    }

    /** All ways to number the runs of n things, the first by these numbers first. */
    private static void ways(int[] way, int at, int used, List<int[]> all) {
        if (at == way.length) {
            all.add(way.clone());
            return;
        }
        for (way[at] = 0; way[at] <= used; way[at]++) {
            ways(way, at + 1, way[at] == used ? used + 1 : used, all);
        }
    }

    private static int[] sets(List<Integer> members, int[] way) {
        int[] sets = new int[Arrays.stream(way).max().orElse(-1) + 1];
        for (int i = 0; i < way.length; i++) {
            sets[way[i]] |= 1 << members.get(i);
        }
        return sets;
    }

    public int heaps(int set, int ht, int thing) {
        if (!isSet(set) || !isHt(ht) || (thing != -1 && !isThing(thing))) {
            return -1;
        }
        List<Integer> members = members(set);
        if (members.size() > 8) {
            return -5;
        }
        int[] known = new int[1 << things.size()];
        List<int[]> all = new ArrayList<>();
        ways(new int[members.size()], 0, 0, all);
        int[] best = null;
        for (int[] way : all) {
            boolean fine = true;
            int[] sets = sets(members, way);
            for (int s : sets) {
                if (known[s] == 0) {
                    known[s] = isSafe(s, ht / 100, 0, ht % 100) ? 1 : 2;
                }
                fine &= known[s] == 1;
            }
            if (fine && (best == null || sets.length < sets(members, best).length)) {
                best = way;
            }
        }
        if (best == null || (thing != -1 && !members.contains(thing))) {
            return -2;
        }
        return thing == -1 ? sets(members, best).length : best[members.indexOf(thing)];
    }

    public int cost(int set, int hn, int price) {
        if (!isSet(set) || hn < 31 || hn > 96 || hn % 10 < 1 || hn % 10 > 6 || price < 0 || price > 99) {
            return -1;
        }
        List<Integer> members = members(set);
        if (members.size() > 7) {
            return -5;
        }
        List<int[]> all = new ArrayList<>();
        ways(new int[members.size()], 0, 0, all);
        int best = Integer.MAX_VALUE;
        int[] known = new int[1 << things.size()];
        for (int[] way : all) {
            int[] sets = sets(members, way);
            int sum = 0;
            boolean fine = sets.length <= hn % 10;
            for (int s : sets) {
                fine &= goes(s) && spoilt(s, hn / 10) == 0;
                known[s] = known[s] == 0 ? tints(s, hn / 10, 0) + 1 : known[s];
                sum += known[s] - 1;
            }
            best = fine ? Math.min(best, sum) : best;
        }
        return best == Integer.MAX_VALUE ? -2 : best * price;
    }

    public int alone(int thing, int heat) {
        if (!isThing(thing) || !isHeat(heat)) {
            return -1;
        }
        Thing t = things.get(thing);
        for (int k = 0; t.of(2) + k <= 99; k++) {
            boolean none = true;
            for (int n = t.of(2) + k; n <= 99; n++) {
                none &= dye(thing, t.of(1), n, heat) == 0;
            }
            if (none) {
                return k;
            }
        }
        return -2;
    }

    // ---- when, the line

    private int rowRefusal(int shelf, int sort) {
        if (shelves[shelf] == null) {
            return -11;
        }
        return shelves[shelf] instanceof Row && ((Row) shelves[shelf]).sort == sort ? 0 : -12;
    }

    private int runOf(long[] e, int thing) {
        return thing < e.length && e[thing] >= 0 && e[thing] <= 19 ? (int) e[thing] : -1;
    }

    private int days(long[] e, int a, int b) {
        int days = 0;
        for (int i = 0; i < things.size(); i++) {
            int run = runOf(e, i);
            run = run == a ? b : run == b ? a : run;
            if (run >= 0 && run / house[2] > things.get(i).of(7)) {
                days += run / house[2] - things.get(i).of(7);
            }
        }
        return days;
    }

    public int late(int shelf, int what) {
        if (shelf < 0 || shelf > 5 || what < 0 || what > 1) {
            return -1;
        }
        if (rowRefusal(shelf, 0) != 0) {
            return rowRefusal(shelf, 0);
        }
        long[] e = ((Row) shelves[shelf]).elements;
        if (what == 1) {
            return days(e, -5, -5);
        }
        int bits = 0;
        for (int i = 0; i < things.size(); i++) {
            int run = runOf(e, i);
            bits += run < 0 || run / house[2] > things.get(i).of(7) ? 1 << i : 0;
        }
        return bits;
    }

    public int soon(int shelf, int who) {
        if (shelf < 0 || shelf > 5 || who < 0 || who > 8) {
            return -1;
        }
        if (rowRefusal(shelf, 0) != 0) {
            return rowRefusal(shelf, 0);
        }
        long[] e = ((Row) shelves[shelf]).elements;
        for (int day = 0; day < 20; day++) {
            boolean all = true;
            boolean any = false;
            for (int i = 0; i < things.size(); i++) {
                if (things.get(i).of(6) == who) {
                    any = true;
                    all &= runOf(e, i) >= 0 && runOf(e, i) / house[2] <= day;
                }
            }
            if (any && all) {
                return day;
            }
        }
        return -2;
    }

    public int swap(int shelf) {
        if (shelf < 0 || shelf > 5) {
            return -1;
        }
        if (rowRefusal(shelf, 0) != 0) {
            return rowRefusal(shelf, 0);
        }
        long[] e = ((Row) shelves[shelf]).elements;
        int least = days(e, -5, -5);
        for (int a = 0; a < 20; a++) {
            for (int b = 0; b < 20; b++) {
                least = Math.min(least, days(e, a, b));
            }
        }
        for (int pair = 0; pair < 400 && least < days(e, -5, -5); pair++) {
            if (pair / 20 < pair % 20 && days(e, pair / 20, pair % 20) == least) {
                return pair;
            }
        }
        return -2;
    }

    /** When the things, hung one behind the other, are hung and dry, found minute by minute. */
    private int[][] hang(List<Integer> chain) {
        int[][] when = new int[10][];
        int minute = 0;
        for (int i = 0; i < chain.size(); i++) {
            Thing t = things.get(chain.get(i));
            if (t.of(4) > house[3]) {
                break;
            }
            while (true) {
                int load = t.of(4);
                for (int j = 0; j < i; j++) {
                    int[] other = when[chain.get(j)];
                    load += other[0] <= minute && minute < other[1] ? things.get(chain.get(j)).of(4) : 0;
                }
                if (load <= house[3]) {
                    break;
                }
                minute++;
            }
            when[chain.get(i)] = new int[] {minute, minute + t.of(5) * 10};
        }
        return when;
    }

    private int allDry(List<Integer> chain) {
        int[][] when = hang(chain);
        int end = 0;
        for (int i : chain) {
            if (when[i] == null) {
                return -2;
            }
            end = Math.max(end, when[i][1]);
        }
        return end;
    }

    public int line(int set, int thing, int what) {
        if (!isSet(set) || (thing != -1 && !isThing(thing)) || what < 0 || what > 1) {
            return -1;
        }
        if (thing == -1) {
            return allDry(members(set));
        }
        int[] when = hang(members(set))[thing];
        return when == null ? -2 : when[what];
    }

    public int rain(int set, int m) {
        if (!isSet(set) || m < 0 || m > 999) {
            return -1;
        }
        int[][] when = hang(members(set));
        int bits = 0;
        for (int i = 0; i < 10; i++) {
            bits += when[i] != null && when[i][0] <= m && m < when[i][1] ? 1 << i : 0;
        }
        return bits;
    }

    private static void orders(List<Integer> left, List<Integer> chain, List<List<Integer>> all) {
        if (left.isEmpty()) {
            all.add(new ArrayList<>(chain));
        }
        for (Integer thing : left) {
            List<Integer> rest = new ArrayList<>(left);
            rest.remove(thing);
            chain.add(thing);
            orders(rest, chain, all);
            chain.remove(chain.size() - 1);
        }
    }

    public int order(int set, int k) {
        if (!isSet(set) || k < -1) {
            return -1;
        }
        List<Integer> members = members(set);
        if (members.size() > 6) {
            return -5;
        }
        List<List<Integer>> all = new ArrayList<>();
        orders(members, new ArrayList<>(), all);
        List<Integer> best = all.get(0);
        int soonest = allDry(best);
        if (soonest == -2 || k >= members.size()) {
            return -2;
        }
        for (List<Integer> chain : all) {
            int end = allDry(chain);
            if (end < soonest) {
                soonest = end;
                best = chain;
            }
        }
        return k == -1 ? soonest : best.get(k);
    }

    // ---- pink

    private int unlike(long[] e, int set, int full, int heat, int caught) {
        for (int i : members(set)) {
            if (i < e.length && e[i] != tintOf(i, loose(full, heat, caught), dye(i, heat))) {
                return i;
            }
        }
        return -2;
    }

    public int judge(int shelf, int set, int hc) {
        if (shelf < 0 || shelf > 5 || !isSet(set) || !isHc(hc)) {
            return -1;
        }
        if (rowRefusal(shelf, 1) != 0) {
            return rowRefusal(shelf, 1);
        }
        return unlike(((Row) shelves[shelf]).elements, set, set, hc / 10, caught(hc));
    }

    public int which(int shelf, int set, int hc, int what) {
        if (shelf < 0 || shelf > 5 || !isSet(set) || !isHc(hc) || what < 0 || what > 1) {
            return -1;
        }
        if (rowRefusal(shelf, 1) != 0) {
            return rowRefusal(shelf, 1);
        }
        List<Integer> found = new ArrayList<>();
        for (int i = 0; i < things.size(); i++) {
            if ((set & 1 << i) == 0
                    && unlike(((Row) shelves[shelf]).elements, set, set | 1 << i, hc / 10, caught(hc)) == -2) {
                found.add(i);
            }
        }
        return what == 0 ? found.size() : found.isEmpty() ? -2 : found.get(0);
    }

    public int heatOfIt(int shelf, int set) {
        if (shelf < 0 || shelf > 5 || !isSet(set)) {
            return -1;
        }
        if (rowRefusal(shelf, 1) != 0) {
            return rowRefusal(shelf, 1);
        }
        for (int h = 3; h <= 9; h++) {
            if (unlike(((Row) shelves[shelf]).elements, set, set, h, 0) == -2) {
                return h;
            }
        }
        return -2;
    }

    public int sock(int shelf, int set, int heat, int thing) {
        if (shelf < 0 || shelf > 5 || !isSet(set) || !isHeat(heat) || !members(set).contains(thing)) {
            return -1;
        }
        if (rowRefusal(shelf, 1) != 0) {
            return rowRefusal(shelf, 1);
        }
        int[] numbers = things.get(thing).numbers;
        int was = numbers[1];
        int found = -2;
        for (numbers[1] = 9; numbers[1] >= 0; numbers[1]--) {
            found = unlike(((Row) shelves[shelf]).elements, set, set, heat, 0) == -2 ? numbers[1] : found;
        }
        numbers[1] = was;
        return found;
    }

    public int test(int set, int ht) {
        if (!isSet(set) || !isHt(ht) || ht % 100 == 0) {
            return -1;
        }
        int bits = 0;
        for (int i : members(set)) {
            bits += dye(i, 3) < ht % 100 && dye(i, ht / 100) > 0 ? 1 << i : 0;
        }
        return bits;
    }

    public int drawn(int seed, int nh, int what) {
        if (nh < 13 || nh > 309 || nh % 10 < 3 || what < 0 || what > 1) {
            return -1;
        }
        int z = seed;
        int[] sums = new int[2];
        for (int week = 1; week <= nh / 10; week++) {
            int set = 0;
            for (int i = 0; i < things.size(); i++) {
                z = z * 1103515245 + 12345;
                if ((z >>> 8) % 12 < 6 && goes(set + (1 << i))) {
                    set += 1 << i;
                }
            }
            sums[0] += tints(set, nh % 10, 0);
            sums[1] += spoilt(set, nh % 10) != 0 ? 1 : 0;
        }
        return sums[what];
    }

    // ---- in deed

    public int wash(int set, int hc) {
        if (!isSet(set) || !isHc(hc)) {
            return -1;
        }
        if (!goes(set)) {
            return -5;
        }
        int all = tints(set, hc / 10, caught(hc));
        int[] each = new int[10];
        for (int i : members(set)) {
            each[i] = tint(set, hc, i);
        }
        for (int i : members(set)) {
            Thing t = things.get(i);
            t.tint = Math.min(99, t.tint + each[i]);
            t.numbers[2] = Math.min(99, t.numbers[2] + 1);
        }
        led[0]++;
        led[1] += all;
        led[2] += Integer.bitCount(spoilt(set, hc / 10));
        led[3] += hc % 10;
        return all;
    }

    public int bleach(int thing) {
        if (!isThing(thing)) {
            return -1;
        }
        int had = things.get(thing).tint;
        things.get(thing).tint = 0;
        return had;
    }

    public int throwAway(int thing) {
        if (!isThing(thing)) {
            return -1;
        }
        if (things.get(thing).gone) {
            return -5;
        }
        things.get(thing).gone = true;
        return count(1);
    }

    public int led(int what) {
        if (what < 0 || what > 4) {
            return -1;
        }
        return what == 4 ? things.size() - count(1) : led[what];
    }

    public int image() {
        image = new Image();
        image.led = led.clone();
        for (Thing t : things) {
            image.things.add(new int[] {t.of(2), t.tint, t.gone ? 1 : 0});
        }
        return led[0];
    }

    public int back() {
        if (image == null) {
            return -5;
        }
        led = image.led.clone();
        for (int i = 0; i < things.size(); i++) {
            Thing t = things.get(i);
            int[] kept = i < image.things.size() ? image.things.get(i) : new int[] {t.of(2), 0, 0};
            t.numbers[2] = kept[0];
            t.tint = kept[1];
            t.gone = kept[2] == 1;
        }
        return led[0];
    }

    public int undo() {
        if (done.isEmpty()) {
            return -5;
        }
        Change c = done.remove(done.size() - 1);
        undone.add(c);
        set(c, c.was);
        return done.size();
    }

    public int redo() {
        if (undone.isEmpty()) {
            return -5;
        }
        Change c = undone.remove(undone.size() - 1);
        done.add(c);
        set(c, c.is);
        return undone.size();
    }

    // ---- acts, shelves

    public int body(int kind) {
        if (kind < 0 || kind > 7) {
            return -1;
        }
        if (bodies.size() == 50) {
            return -3;
        }
        bodies.add(kind);
        return bodies.size() - 1;
    }

    public int act(int body, int act, int x) {
        trace = new ArrayList<>();
        if (body < 0 || body >= bodies.size() || act < 0 || act > 3) {
            return 0;
        }
        int kind = bodies.get(body);
        switch (act) {
            case 0:
                return runs(kind, body, x);
            case 1:
                return tints(kind, body, x, kind);
            case 2:
                return dries(kind, body, x, kind);
            default:
                return tells(kind, body, x);
        }
    }

    private void begins(int body) {
        trace.add(body);
    }

    private int runs(int kind, int n, int x) {
        switch (kind) {
            case 1:
            case 4:
                begins(20);
                begins(1);
                return x + n + 3;
            case 6:
                begins(70);
                begins(1);
                return (x + n) * 2;
            case 7:
                begins(81);
                begins(70);
                begins(1);
                return (x + n) * 2 - 1;
            default:
                begins(1);
                return x + n;
        }
    }

    /** The tints seen from a kind on, of a body whose own kind is told. */
    private int tints(int from, int n, int x, int own) {
        switch (from) {
            case 2:
                begins(30);
                return -tints(0, n, x, own);
            case 3:
            case 5:
                begins(41);
                return tints(2, n, x + 1, own);
            case 7:
                begins(80);
                int above = tints(0, n, x, own);
                return above + dries(own, n, 2, own);
            default:
                begins(10);
                return runs(own, n, x) * 2;
        }
    }

    private int dries(int from, int n, int x, int own) {
        switch (from) {
            case 3:
                begins(40);
                return dries(0, n, x, own) * 3;
            case 5:
                begins(60);
                int above = dries(3, n, x, own);
                return above - runs(own, n, 2);
            default:
                begins(11);
                return x ^ n;
        }
    }

    private int tells(int kind, int n, int x) {
        if (kind == 4) {
            begins(50);
        } else if (kind == 5) {
            begins(61);
        }
        begins(2);
        int tints = tints(kind, n, x, kind);
        int told = tints - dries(kind, n, 1, kind);
        return kind == 4 ? told ^ 5 : kind == 5 ? told + 1 : told;
    }

    public int trace(int i) {
        return i >= 0 && i < trace.size() && i < 24 ? trace.get(i) : -1;
    }

    public int keep(int shelf, int body) {
        if (shelf < 0 || shelf > 5 || body < -1 || body >= bodies.size()) {
            return -1;
        }
        shelves[shelf] = body == -1 ? null : (Object) body;
        return 1;
    }

    public int row(int shelf, int sort, int n) {
        if (shelf < 0 || shelf > 5 || sort < 0 || sort > 4 || n > 60) {
            return -1;
        }
        if (n < 0) {
            return -14;
        }
        Row row = new Row();
        row.sort = sort;
        row.elements = new long[n];
        shelves[shelf] = row;
        return 1;
    }

    private int placeRefusal(int shelf, int i) {
        if (shelf < 0 || shelf > 5) {
            return -1;
        }
        if (shelves[shelf] == null) {
            return -11;
        }
        if (!(shelves[shelf] instanceof Row)) {
            return -12;
        }
        return i < 0 || i >= ((Row) shelves[shelf]).elements.length ? -13 : 0;
    }

    public int put(int shelf, int i, long v) {
        int refusal = placeRefusal(shelf, i);
        if (refusal != 0) {
            return refusal;
        }
        Row row = (Row) shelves[shelf];
        row.elements[i] = new long[] {(byte) v, (short) v, (int) v, v, v != 0 ? 1 : 0}[row.sort];
        return 1;
    }

    public long element(int shelf, int i) {
        return placeRefusal(shelf, i) == 0 ? ((Row) shelves[shelf]).elements[i] : Long.MIN_VALUE;
    }

    public int shift(int shelf, int i, int other, int j, int n) {
        if (shelf < 0 || shelf > 5 || other < 0 || other > 5) {
            return -1;
        }
        if (shelves[shelf] == null || shelves[other] == null) {
            return -11;
        }
        if (!(shelves[shelf] instanceof Row) || !(shelves[other] instanceof Row)
                || ((Row) shelves[shelf]).sort != ((Row) shelves[other]).sort) {
            return -12;
        }
        long[] from = ((Row) shelves[shelf]).elements.clone();
        long[] to = ((Row) shelves[other]).elements;
        if (i < 0 || j < 0 || n < 0 || (long) i + n > from.length || (long) j + n > to.length) {
            return -13;
        }
        for (int k = 0; k < n; k++) {
            to[j + k] = from[i + k];
        }
        return n;
    }

    public int taken(int shelf, int k) {
        if (shelf < 0 || shelf > 5 || k < 0 || k > 7) {
            return -1;
        }
        if (shelves[shelf] == null) {
            return -11;
        }
        if (shelves[shelf] instanceof Row) {
            return -12;
        }
        int kind = bodies.get((Integer) shelves[shelf]);
        int[][] under = {{0}, {0, 1}, {0, 2}, {0, 2, 3}, {0, 1, 4}, {0, 2, 3, 5}, {0, 6}, {0, 6, 7}};
        return Arrays.stream(under[kind]).anyMatch(a -> a == k) ? kind : -12;
    }

    public int count(int what) {
        switch (what) {
            case 0:
                return things.size();
            case 1:
                return (int) things.stream().filter(t -> !t.gone).count();
            case 2:
                return tape.length();
            case 3:
                return done.size();
            case 4:
                return bodies.size();
            case 5:
                return trace.size();
            default:
                return -1;
        }
    }
}
