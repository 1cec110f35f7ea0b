import java.math.BigInteger;
import java.util.ArrayList;
import java.util.List;

/** The document's promises once more, written for sight and not for speed, to hold the class against. */
final class Model {
    static final long THROWS = Long.MIN_VALUE;

    final List<int[]> names = new ArrayList<>();   // people, sex, class, taken
    final List<int[]> houses = new ArrayList<>();  // trade, town, law
    final List<int[]> letters = new ArrayList<>(); // house, name, worth, errors, street, day, read, rung, after
    final String[] laws = new String[6];
    final String[] filters = new String[6];
    final int[][] kinds = {{30, 30}, {30, 15}, {30, 0}, {0, 0}};
    final int[] parts = {1, 1, 1, 1};
    final List<int[]> askings = new ArrayList<>();
    final List<List<int[]>> kept = new ArrayList<>(List.of(List.of(), List.of(), List.of()));
    final Integer[] keptR = new Integer[3];
    String text = "";
    int r = 1;
    List<Long> row = new ArrayList<>();
    private List<Long> next;

    /** A fraction in lowest terms. */
    record F(BigInteger up, BigInteger low) {
        static F of(BigInteger up, BigInteger low) {
            BigInteger g = up.gcd(low);
            if (low.signum() < 0) {
                g = g.negate();
            }
            return new F(up.divide(g), low.divide(g));
        }

        static F of(long up, long low) {
            return of(BigInteger.valueOf(up), BigInteger.valueOf(low));
        }

        F plus(F o) {
            return of(up.multiply(o.low).add(o.up.multiply(low)), low.multiply(o.low));
        }

        F minus(F o) {
            return plus(new F(o.up.negate(), o.low));
        }

        F times(F o) {
            return of(up.multiply(o.up), low.multiply(o.low));
        }

        F by(F o) {
            return of(up.multiply(o.low), low.multiply(o.up));
        }

        F size() {
            return new F(up.abs(), low);
        }

        int compare(F o) {
            return minus(o).up.signum();
        }
    }

    static final F ZERO = F.of(0, 1);
    static final F ONE = F.of(1, 1);

    /** What a call answers; the row is changed only by answers of 0 and above. */
    long call(String name, int... a) {
        next = null;
        long answer = answer(name, a);
        if (answer >= 0 && next != null) {
            row = next;
        }
        return answer;
    }

    private long answer(String name, int[] a) {
        switch (name) {
            case "name": return name(a[0], a[1], a[2]);
            case "house": return house(a[0], a[1], a[2]);
            case "letter": return letter(a);
            case "deal": return deal(a[0], a[1], a[2]);
            case "of": return in(a[0], letters.size()) && in(a[1], 9) ? letters.get(a[0])[a[1]] : THROWS;
            case "sign": return sign(a[0]);
            case "end": return end(a[0]);
            case "law": return take(laws, a[0], true);
            case "filter": return take(filters, a[0], false);
            case "value": return in(a[1], letters.size()) && told(laws, a[0])
                    ? lawFor(a[0], letters.get(a[1]), true) : THROWS;
            case "read": return read(a[0]);
            case "ring": return ring(a[0], a[1] != 0);
            case "box": return box(a[0], a[1], a[2], a[3]);
            case "after": return after(a[0], a[1]);
            case "seed": {
                int was = r;
                r = a[0];
                return was;
            }
            case "share": return share(a[0]);
            case "aside": return aside(a[0]);
            case "odds": return odds(a[0], a[1]);
            case "weighs": return weighs();
            case "names": return ofName(a[0]);
            case "drawn": return drawn();
            case "goes": return goes(a[0]);
            case "says": return says();
            case "child": return child(a[0]);
            default: return answerMore(name, a);
        }
    }

    private long answerMore(String name, int[] a) {
        switch (name) {
            case "table": return table(a[0], a[1]);
            case "kind": return kind(a[0], a[1], a[2]);
            case "parts": return parts(a[0], a[1]);
            case "likely": return likely(a[0], a[1]);
            case "fit": return fit();
            case "named": return named(a[0], a[1]);
            case "sure": return sure(a[0], a[1]);
            case "most": return most();
            case "both": return both(a[0]);
            case "explains": return explains(a[0]);
            case "join": return join(a[0]);
            case "bounds": return bounds(a[0]);
            case "years": return years(a[0]);
            case "mornings": return mornings(a[0], a[1], a[2]);
            case "asked": return asked(a[0], a[1], a[2]);
            case "pairs": return pairs();
            case "ask": return ask();
            case "nearly": return a[0] < 0 || a[0] > 40 ? -1 : lawsWith(a[0]);
            case "shows": return shows(a[0], a[1], a[2], a[3]);
            case "least": return least(a[0], a[1], a[2], a[3]);
            case "keep": return keep(a[0]);
            case "again": return again(a[0]);
            case "count": return count(a[0]);
            case "row": return in(a[0], row.size()) ? row.get(a[0]) : THROWS;
            default: throw new IllegalArgumentException(name);
        }
    }

    private static boolean in(int i, int n) {
        return i >= 0 && i < n;
    }

    private static boolean told(String[] list, int i) {
        return in(i, 6) && list[i] != null;
    }

    private void tell(long... numbers) {
        if (next == null) {
            next = new ArrayList<>();
        }
        for (long v : numbers) {
            next.add(v);
        }
    }

    private void tell(F f) {
        tell(f.up.longValueExact(), f.low.longValueExact());
    }

    // names, houses, letters

    private int name(int people, int sex, int ct) {
        if (!in(people, 2) || !in(sex, 2) || !in(ct, 1010) || names.size() == 12) {
            return -1;
        }
        names.add(new int[] {people, sex, ct / 101, ct % 101});
        return names.size() - 1;
    }

    private int house(int trade, int town, int law) {
        if (!in(trade, 4) || !in(town, 4) || !in(law, 6) || houses.size() == 24) {
            return -1;
        }
        houses.add(new int[] {trade, town, law});
        return houses.size() - 1;
    }

    private int letter(int[] a) {
        boolean fits = in(a[0], houses.size()) && in(a[1], names.size()) && in(a[2], 100) && in(a[3], 40)
                && in(a[4], 400) && letters.size() < 96;
        if (!fits || letters.stream().filter(l -> l[0] == a[0]).count() == 4) {
            return -1;
        }
        letters.add(new int[] {a[0], a[1], a[2], a[3] / 4, a[3] % 4, a[4], 0, 0, 0});
        return letters.size() - 1;
    }

    private int draw(int n) {
        r = r * 1103515245 + 12345;
        return (int) ((r & 0xffffffffL) / 65536 % n);
    }

    private int deal(int house, int low, int high) {
        long zeros = names.stream().filter(n -> n[0] == 0).count();
        if (!in(house, houses.size()) || !in(low, 100) || !in(high, 100) || letters.size() > 92
                || letters.stream().anyMatch(l -> l[0] == house) || zeros < 2 || names.size() - zeros < 2) {
            return -1;
        }
        String ways = "1100 1010 1001 0110 0101 0011";
        String way = ways.split(" ")[draw(6)];
        int[] before = new int[2];
        for (char c : way.toCharArray()) {
            int people = c - '0';
            List<Integer> free = new ArrayList<>();
            for (int n = 0; n < names.size(); n++) {
                int name = n;
                if (names.get(n)[0] == people && letters.stream().noneMatch(l -> l[0] == house && l[1] == name)) {
                    free.add(n);
                }
            }
            int name = free.get(draw(free.size()));
            int street = draw(4);
            int day = draw(400);
            letters.add(new int[] {house, name, before[people] == 0 ? low : high, 0, street, day, 0, 0, 0});
            before[people]++;
        }
        return letters.size();
    }

    private int sign(int v) {
        if (text.length() > 56) {
            return -1;
        }
        text += "" + (char) (v >>> 24) + (char) (v >> 16 & 255) + (char) (v >> 8 & 255) + (char) (v & 255);
        return text.length();
    }

    private int end(int n) {
        if (n < 0 || n > text.length()) {
            return 0;
        }
        text = text.substring(0, n);
        return 1;
    }

    private int take(String[] list, int i, boolean isLaw) {
        String t = text;
        text = "";
        if (!in(i, 6)) {
            return -100;
        }
        int wrong = new Reader(t, isLaw, null).firstWrong();
        if (wrong >= 0) {
            return -1 - wrong;
        }
        list[i] = t;
        return 0;
    }

    /** Reads a text by its grammar, rule by rule. */
    private static final class Reader {
        private final String t;
        private final String things;
        private final int[] values; // by their places in all things
        private int p;
        private int wrong = -1;

        Reader(String t, boolean isLaw, int[] values) {
            this.t = t;
            this.things = isLaw ? "wesdpxcatonkm" : "wesdpxcator";
            this.values = values;
        }

        int firstWrong() {
            any(0);
            if (wrong < 0 && p < t.length()) {
                wrong = p;
            }
            return wrong < 0 && t.length() <= 40 ? -1 : wrong < 0 ? 40 : Math.min(wrong, 40);
        }

        private boolean at(String signs) {
            return wrong < 0 && p < t.length() && signs.indexOf(t.charAt(p)) >= 0;
        }

        int any(int depth) {
            int v = every(depth);
            while (at("|")) {
                p++;
                int w = every(depth);
                v = v != 0 || w != 0 ? 1 : 0;
            }
            return v;
        }

        private int every(int depth) {
            int v = compared(depth);
            while (at("&")) {
                p++;
                int w = compared(depth);
                v = v != 0 && w != 0 ? 1 : 0;
            }
            return v;
        }

        private int compared(int depth) {
            int v = sum(depth);
            if (at("<>=")) {
                char c = t.charAt(p++);
                int w = sum(depth);
                return (c == '<' ? v < w : c == '>' ? v > w : v == w) ? 1 : 0;
            }
            return v;
        }

        private int sum(int depth) {
            int v = product(depth);
            while (at("+-")) {
                char c = t.charAt(p++);
                int w = product(depth);
                v = c == '+' ? v + w : v - w;
            }
            return v;
        }

        private int product(int depth) {
            int v = single(depth);
            while (at("*")) {
                p++;
                v *= single(depth);
            }
            return v;
        }

        private int single(int depth) {
            if (at("!")) {
                p++;
                return single(depth) == 0 ? 1 : 0;
            }
            if (at("-")) {
                p++;
                return -single(depth);
            }
            if (at("(") && depth < 5) {
                p++;
                int v = any(depth + 1);
                if (at(")")) {
                    p++;
                } else if (wrong < 0) {
                    wrong = p;
                }
                return v;
            }
            if (at("0123456789")) {
                int from = p;
                while (at("0123456789") && p < from + 3) {
                    p++;
                }
                return Integer.parseInt(t.substring(from, p));
            }
            if (at(things)) {
                int thing = "wesdpxcatonkmr".indexOf(t.charAt(p++));
                return values == null ? 0 : values[thing];
            }
            if (wrong < 0) {
                wrong = p;
            }
            return 0;
        }
    }

    private int eval(String t, boolean isLaw, int[] l, boolean houseKnows) {
        int[] n = names.get(l[1]);
        int[] h = houses.get(l[0]);
        int rung = 0;
        int read = 0;
        int best = 0;
        for (int[] o : letters) {
            if (houseKnows && o[0] == l[0] && o[6] == 1) {
                read++;
                rung += o[7];
                best = Math.max(best, o[2]);
            }
        }
        int[] values = {l[2], l[3], l[4], l[5], n[0], n[1], n[2], n[3], h[0], h[1], rung, read, best, l[7]};
        return new Reader(t, isLaw, values).any(0);
    }

    private int lawFor(int law, int[] l, boolean houseKnows) {
        return eval(laws[law], true, l, houseKnows);
    }

    // read

    private int read(int n) {
        if (n < 0 || n > 96) {
            return -1;
        }
        List<int[]> waiting = new ArrayList<>(letters.stream().filter(l -> l[6] == 0).toList());
        waiting.sort((x, y) -> x[5] - y[5]); // it keeps equal ones in their order
        int rings = 0;
        for (int[] l : waiting.subList(0, Math.min(n, waiting.size()))) {
            int drawn = draw(100);
            int law = houses.get(l[0])[2];
            boolean rung = laws[law] != null && drawn < lawFor(law, l, true);
            l[6] = 1;
            l[7] = rung ? 1 : 0;
            rings += l[7];
        }
        return rings;
    }

    private int ring(int i, boolean is) {
        if (!in(i, letters.size()) || letters.get(i)[6] == 1) {
            return 0;
        }
        letters.get(i)[6] = 1;
        letters.get(i)[7] = is ? 1 : 0;
        return 1;
    }

    private int box(int kind, int n, int f, int step) {
        if (!in(kind, 4) || n > 96) {
            return -1;
        }
        if (kind < 3 && n < 0) {
            return -2;
        }
        int count = 0;
        int entry = f;
        for (int i = 0; i < letters.size() && (kind == 3 || i < n); i++, entry += step) {
            int held = kind == 0 ? (byte) entry : kind == 1 ? (short) entry : kind == 2 ? entry : 0;
            if (held >= 0) {
                count += ring(i, held > 0);
            }
        }
        return count;
    }

    private int after(int i, int v) {
        if (!in(i, letters.size()) || letters.get(i)[7] == 0 || !in(v, 3)) {
            return -1;
        }
        int was = letters.get(i)[8];
        letters.get(i)[8] = v;
        return was;
    }

    // shares

    interface Which {
        boolean is(int[] letter);
    }

    private int people(int[] l) {
        return names.get(l[1])[0];
    }

    private List<int[]> readOnes(Which which) {
        return letters.stream().filter(l -> l[6] == 1 && which.is(l)).toList();
    }

    private static int rungOf(List<int[]> list) {
        return list.stream().mapToInt(l -> l[7]).sum();
    }

    private static F shareOf(List<int[]> list) {
        return list.isEmpty() ? null : F.of(rungOf(list), list.size());
    }

    private F asideOf(Which which) {
        F zero = shareOf(readOnes(l -> which.is(l) && people(l) == 0));
        F one = shareOf(readOnes(l -> which.is(l) && people(l) == 1));
        return zero == null || one == null ? null : zero.minus(one);
    }

    private boolean noFilter(int f) {
        return f != -1 && !told(filters, f);
    }

    private boolean passes(int f, int[] l) {
        return f == -1 || eval(filters[f], false, l, true) != 0;
    }

    private int share(int f) {
        if (noFilter(f)) {
            return -1;
        }
        List<int[]> some = readOnes(l -> passes(f, l));
        tell();
        if (!some.isEmpty()) {
            tell(shareOf(some));
        }
        return some.size();
    }

    private int aside(int f) {
        if (noFilter(f)) {
            return -1;
        }
        F aside = asideOf(l -> passes(f, l));
        if (aside == null) {
            return -2;
        }
        tell(aside);
        for (int p = 0; p < 2; p++) {
            int q = p;
            List<int[]> some = readOnes(l -> passes(f, l) && people(l) == q);
            tell(some.size(), rungOf(some));
        }
        return 0;
    }

    private int odds(int f, int what) {
        if (noFilter(f) || !in(what, 3)) {
            return -1;
        }
        BigInteger[] ways = new BigInteger[97];
        java.util.Arrays.fill(ways, BigInteger.ZERO);
        ways[0] = BigInteger.ONE;
        for (int h = 0; h < houses.size(); h++) {
            int house = h;
            List<int[]> some = readOnes(l -> l[0] == house && passes(f, l));
            long ones = some.stream().filter(l -> people(l) == 1).count();
            BigInteger[] then = new BigInteger[97];
            java.util.Arrays.fill(then, BigInteger.ZERO);
            for (int set = 0; set < 1 << some.size(); set++) {
                if (Integer.bitCount(set) == ones) {
                    int rings = 0;
                    for (int k = 0; k < some.size(); k++) {
                        rings += (set >> k & 1) * some.get(k)[7];
                    }
                    for (int t = rings; t < 97; t++) {
                        then[t] = then[t].add(ways[t - rings]);
                    }
                }
            }
            ways = then;
        }
        int now = rungOf(readOnes(l -> passes(f, l) && people(l) == 1));
        BigInteger up = BigInteger.ZERO;
        BigInteger all = BigInteger.ZERO;
        for (int t = 0; t < 97; t++) {
            all = all.add(ways[t]);
            if (what == 0 && t <= now || what == 1 && t >= now || what == 2 && t == now) {
                up = up.add(ways[t]);
            }
        }
        tell(F.of(up, all));
        return 0;
    }

    private int weighs() {
        F all = asideOf(l -> true);
        int best = -2;
        F most = null;
        for (int h = 0; h < houses.size() && all != null; h++) {
            int house = h;
            F rest = asideOf(l -> l[0] != house);
            if (rest != null && !readOnes(l -> l[0] == house).isEmpty()) {
                F change = rest.minus(all).size();
                if (most == null || change.compare(most) > 0) {
                    most = change;
                    best = h;
                    next = null;
                    tell(rest);
                }
            }
        }
        return best;
    }

    // names

    private F nameShare(int name) {
        return shareOf(readOnes(l -> l[1] == name));
    }

    private int ofName(int name) {
        if (!in(name, names.size())) {
            return -1;
        }
        tell();
        if (nameShare(name) != null) {
            tell(nameShare(name));
        }
        return readOnes(l -> l[1] == name).size();
    }

    private List<Integer> readNames() {
        List<Integer> list = new ArrayList<>();
        for (int n = 0; n < names.size(); n++) {
            if (nameShare(n) != null) {
                list.add(n);
            }
        }
        return list;
    }

    private int drawn() {
        List<Integer> list = readNames();
        if (list.isEmpty()) {
            return -2;
        }
        F[] shares = new F[list.size()];
        F now = ZERO;
        int ones = 0;
        for (int k = 0; k < shares.length; k++) {
            shares[k] = nameShare(list.get(k));
            if (names.get(list.get(k))[0] == 1) {
                now = now.plus(shares[k]);
                ones++;
            }
        }
        long[] counts = new long[2]; // no more, all
        choose(shares, 0, ones, ZERO, now, counts);
        tell(F.of(counts[0], counts[1]));
        return 0;
    }

    private static void choose(F[] shares, int k, int left, F sum, F now, long[] counts) {
        if (k == shares.length) {
            if (left == 0) {
                counts[0] += sum.compare(now) <= 0 ? 1 : 0;
                counts[1]++;
            }
            return;
        }
        choose(shares, k + 1, left, sum, now, counts);
        if (left > 0) {
            choose(shares, k + 1, left - 1, sum.plus(shares[k]), now, counts);
        }
    }

    private int[] ways(int what) {
        int[] counts = new int[3]; // with, against, neither
        List<Integer> list = readNames();
        for (int a : list) {
            for (int b : list) {
                if (a < b) {
                    int by = Integer.signum(names.get(a)[what] - names.get(b)[what]);
                    int shares = nameShare(a).compare(nameShare(b));
                    counts[by * shares == 0 ? 2 : by == shares ? 0 : 1]++;
                }
            }
        }
        return counts;
    }

    private int goes(int what) {
        if (!in(what, 4)) {
            return -1;
        }
        int[] counts = ways(what);
        tell(counts[1], counts[2]);
        return counts[0];
    }

    private int says() {
        int best = 0;
        for (int what = 1; what < 4; what++) {
            if (Math.abs(ways(what)[0] - ways(what)[1]) > Math.abs(ways(best)[0] - ways(best)[1])) {
                best = what;
            }
        }
        tell(ways(best)[0] - ways(best)[1]);
        return best;
    }

    private int child(int off) {
        if (off < 1 || off > 9) {
            return -1;
        }
        int all = 0;
        int more = 0;
        int less = 0;
        for (int a : readNames()) {
            for (int b : readNames()) {
                int[] x = names.get(a);
                int[] y = names.get(b);
                if (x[0] == y[0] && x[1] == y[1] && x[2] >= y[2] + off) {
                    all++;
                    more += nameShare(a).compare(nameShare(b)) > 0 ? 1 : 0;
                    less += nameShare(a).compare(nameShare(b)) < 0 ? 1 : 0;
                }
            }
        }
        tell(all, less);
        return more;
    }

    // houses of kinds

    private List<Integer> readHouses() {
        List<Integer> list = new ArrayList<>();
        for (int h = 0; h < houses.size(); h++) {
            int house = h;
            if (!readOnes(l -> l[0] == house).isEmpty()) {
                list.add(h);
            }
        }
        return list;
    }

    private int rungIn(int house, int people) {
        return rungOf(readOnes(l -> l[0] == house && people(l) == people));
    }

    private int table(int a, int b) {
        if (!in(a, 5) || !in(b, 5)) {
            return -1;
        }
        return (int) readHouses().stream().filter(h -> rungIn(h, 0) == a && rungIn(h, 1) == b).count();
    }

    private int kind(int kind, int zero, int one) {
        if (!in(kind, 4) || !in(zero, 101) || !in(one, 101)) {
            return 0;
        }
        kinds[kind] = new int[] {zero, one};
        return 1;
    }

    private int parts(int kind, int v) {
        if (!in(kind, 4) || !in(v, 100) || v == 0 && parts[0] + parts[1] + parts[2] + parts[3] == parts[kind]) {
            return -1;
        }
        int was = parts[kind];
        parts[kind] = v;
        return was;
    }

    private F chanceBy(int house, int kind) {
        F f = ONE;
        for (int[] l : readOnes(l -> l[0] == house)) {
            int rings = kinds[kind][people(l)];
            f = f.times(F.of(l[7] == 1 ? rings : 100 - rings, 100));
        }
        return f;
    }

    private int likely(int house, int kind) {
        if (!in(house, houses.size()) || !in(kind, 4)) {
            return -1;
        }
        F all = ZERO;
        for (int k = 0; k < 4; k++) {
            all = all.plus(chanceBy(house, k).times(F.of(parts[k], 1)));
        }
        if (all.up.signum() == 0) {
            return -2;
        }
        F f = chanceBy(house, kind).times(F.of(parts[kind] * 1000000L, 1)).by(all);
        return f.up.divide(f.low).intValueExact();
    }

    private int fit() {
        List<Integer> list = readHouses();
        F[][] chances = new F[list.size()][4];
        for (int i = 0; i < list.size(); i++) {
            for (int k = 0; k < 4; k++) {
                chances[i][k] = chanceBy(list.get(i), k);
            }
        }
        F best = ZERO;
        int[] bestWay = null;
        for (int a = 0; a <= 10; a++) {
            for (int b = 0; a + b <= 10; b++) {
                for (int c = 0; a + b + c <= 10; c++) {
                    int[] way = {a, b, c, 10 - a - b - c};
                    BigInteger up = BigInteger.ONE;
                    BigInteger low = BigInteger.ONE;
                    for (F[] by : chances) {
                        F sum = ZERO;
                        for (int k = 0; k < 4; k++) {
                            sum = sum.plus(by[k].times(F.of(way[k], 10)));
                        }
                        up = up.multiply(sum.up);
                        low = low.multiply(sum.low);
                    }
                    if (up.multiply(best.low).compareTo(best.up.multiply(low)) > 0) {
                        best = new F(up, low);
                        bestWay = way;
                    }
                }
            }
        }
        if (bestWay == null) {
            return -2;
        }
        tell(bestWay[0], bestWay[1], bestWay[2], bestWay[3]);
        return list.size();
    }

    private int sumOf(int house, int bits) {
        int sum = 0;
        for (int k = 0; k < 4; k++) {
            if (likely(house, k) == -2) {
                return -2;
            }
            sum += (bits >> k & 1) * likely(house, k);
        }
        return sum;
    }

    private int named(int bits, int line) {
        if (bits < 1 || bits > 15 || line < 0 || line > 1000000) {
            return -1;
        }
        long which = 0;
        long wrongly = 0;
        long letGo = 0;
        for (int h : readHouses()) {
            int sum = sumOf(h, bits);
            if (sum >= line) {
                which |= 1L << h;
                wrongly += 1000000 - sum;
            } else if (sum >= 0) {
                letGo += sum;
            }
        }
        tell(which, wrongly, letGo);
        return Long.bitCount(which);
    }

    private int sure(int bits, int wrong) {
        if (bits < 1 || bits > 15 || wrong < 0 || wrong > 24000000) {
            return -1;
        }
        List<Integer> sums = new ArrayList<>();
        for (int h : readHouses()) {
            if (sumOf(h, bits) >= 0) {
                sums.add(sumOf(h, bits));
            }
        }
        for (int line = 0; line <= 1000000; line += 1000) {
            long wrongly = 0;
            for (int sum : sums) {
                wrongly += sum >= line ? 1000000 - sum : 0;
            }
            if (wrongly <= wrong) {
                return line;
            }
        }
        return -2;
    }

    private int most() {
        List<Integer> gaps = new ArrayList<>();
        for (int h : readHouses()) {
            if (rungIn(h, 0) > rungIn(h, 1)) {
                gaps.add(rungIn(h, 0) - rungIn(h, 1));
            }
        }
        gaps.sort((x, y) -> y - x);
        int sum = gaps.stream().mapToInt(g -> g).sum();
        tell(gaps.size(), sum);
        int n = 0;
        int reached = 0;
        while (2 * reached < sum) {
            reached += gaps.get(n++);
        }
        return n;
    }

    // what else

    private int both(int v) {
        if (v < 1 || v > 99) {
            return -1;
        }
        F[] f = new F[4];
        for (int k = 0; k < 4; k++) {
            int q = k;
            List<int[]> some = readOnes(l -> people(l) == q / 2 && l[2] >= v == (q % 2 == 0));
            if (some.isEmpty()) {
                return -2;
            }
            tell(rungOf(some), some.size());
            f[k] = shareOf(some);
        }
        F by = f[0].minus(f[1]).minus(f[2].minus(f[3]));
        tell(by);
        return by.up.signum() > 0 ? 1 : by.up.signum() < 0 ? 2 : 0;
    }

    private int valueOf(int[] l, String what) {
        switch (what) {
            case "street": return l[4];
            case "trade": return houses.get(l[0])[0];
            case "town": return houses.get(l[0])[1];
            default: return l[3];
        }
    }

    private int explains(int what) {
        if (!in(what, 4)) {
            return -1;
        }
        String by = "street trade town errors".split(" ")[what];
        F sum = ZERO;
        int all = 0;
        for (int v = 0; v < 10; v++) {
            int w = v;
            F aside = asideOf(l -> valueOf(l, by) == w);
            if (aside != null) {
                int n = readOnes(l -> valueOf(l, by) == w).size();
                sum = sum.plus(aside.times(F.of(n, 1)));
                all += n;
            }
        }
        if (all == 0) {
            return -2;
        }
        F joined = sum.times(F.of(1, all));
        tell(joined);
        tell(asideOf(l -> true).minus(joined));
        return 0;
    }

    private int join(int what) {
        if (!in(what, 3)) {
            return -1;
        }
        String by = "trade town street".split(" ")[what];
        F up = ZERO;
        F low = ZERO;
        for (int v = 0; v < 4; v++) {
            int w = v;
            int n = readOnes(l -> valueOf(l, by) == w).size();
            List<int[]> zero = readOnes(l -> valueOf(l, by) == w && people(l) == 0);
            List<int[]> one = readOnes(l -> valueOf(l, by) == w && people(l) == 1);
            if (n > 0) {
                up = up.plus(F.of((long) rungOf(zero) * (one.size() - rungOf(one)), n));
                low = low.plus(F.of((long) (zero.size() - rungOf(zero)) * rungOf(one), n));
            }
        }
        if (low.up.signum() == 0) {
            return -2;
        }
        tell(up.by(low));
        return 0;
    }

    private int bounds(int people) {
        if (!in(people, 2)) {
            return -1;
        }
        List<int[]> some = readOnes(l -> people(l) == people);
        if (some.isEmpty()) {
            return -2;
        }
        int on = (int) some.stream().filter(l -> l[8] == 1).count();
        int open = (int) some.stream().filter(l -> l[7] == 1 && l[8] == 0).count();
        tell(F.of(on, some.size()));
        tell(F.of(on + open, some.size()));
        return open;
    }

    private int years(int v) {
        if (!in(v, 100)) {
            return -1;
        }
        F zero = shareOf(readOnes(l -> people(l) == 0 && l[2] >= v));
        for (int d = 0; d < 100 && zero != null; d++) {
            int from = v + d;
            F one = shareOf(readOnes(l -> people(l) == 1 && l[2] >= from));
            if (one != null && one.compare(zero) >= 0) {
                tell(one);
                return d;
            }
        }
        return -2;
    }

    private int mornings(int read, int ring, int lost) {
        if (!in(read, 100) || !in(ring, 100) || !in(lost, 1000)) {
            return -1;
        }
        int[] sums = new int[houses.size()];
        for (int[] l : readOnes(l -> true)) {
            sums[l[0]] += read + l[7] * ring + (l[8] == 2 ? lost : 0);
        }
        int best = houses.isEmpty() ? -1 : 0;
        int all = 0;
        for (int h = 0; h < sums.length; h++) {
            all += sums[h];
            best = sums[h] > sums[best] ? h : best;
        }
        tell(best, best < 0 ? 0 : sums[best]);
        return all;
    }

    // a machine

    private int asked(int a, int b, int took) {
        if (!in(a, letters.size()) || !in(b, letters.size()) || a == b || !in(took, 3) || askings.size() == 40) {
            return -1;
        }
        askings.add(new int[] {a, b, took});
        return askings.size();
    }

    private boolean against(int law, int a, int b, int took) {
        int va = lawFor(law, letters.get(a), false);
        int vb = lawFor(law, letters.get(b), false);
        return took == 1 ? va < vb : took == 2 ? vb < va : va != vb;
    }

    private int howManyAgainst(int law) {
        return (int) askings.stream().filter(q -> against(law, q[0], q[1], q[2])).count();
    }

    private int lawsWith(int wrong) {
        int bits = 0;
        for (int law = 0; law < 6; law++) {
            bits |= laws[law] != null && howManyAgainst(law) <= wrong ? 1 << law : 0;
        }
        return bits;
    }

    private int pairs() {
        for (int law = 0; law < 6; law++) {
            tell(laws[law] == null ? -1 : howManyAgainst(law));
        }
        return lawsWith(0);
    }

    private int ask() {
        int bits = lawsWith(0);
        if (Integer.bitCount(bits) < 2 || letters.size() < 2) {
            return -2;
        }
        int best = 7;
        for (int a = 0; a < letters.size(); a++) {
            for (int b = a + 1; b < letters.size(); b++) {
                int most = 0;
                for (int took = 0; took < 3; took++) {
                    int left = 0;
                    for (int law = 0; law < 6; law++) {
                        left += (bits >> law & 1) == 1 && !against(law, a, b, took) ? 1 : 0;
                    }
                    most = Math.max(most, left);
                }
                if (most < best) {
                    best = most;
                    next = null;
                    tell(a, b);
                }
            }
        }
        return best;
    }

    // how many

    private static BigInteger ways(int n, int k, int percent) {
        BigInteger w = BigInteger.ONE;
        for (int i = 0; i < k; i++) {
            w = w.multiply(BigInteger.valueOf(n - i)).divide(BigInteger.valueOf(i + 1));
        }
        return w.multiply(BigInteger.valueOf(percent).pow(k)).multiply(BigInteger.valueOf(100 - percent).pow(n - k));
    }

    static int shows(int n, int zero, int one, int off) {
        if (n < 1 || n > 16 || !in(zero, 101) || !in(one, 101) || off < 1 || off > 16) {
            return -1;
        }
        BigInteger sum = BigInteger.ZERO;
        for (int a = 0; a <= n; a++) {
            for (int b = 0; b + off <= a; b++) {
                sum = sum.add(ways(n, a, zero).multiply(ways(n, b, one)));
            }
        }
        return sum.multiply(BigInteger.valueOf(1000000)).divide(BigInteger.valueOf(100).pow(2 * n)).intValueExact();
    }

    private int least(int zero, int one, int power, int wrong) {
        if (!in(zero, 101) || !in(one, 101) || power < 1 || power > 1000000 || !in(wrong, 1000001)) {
            return -1;
        }
        for (int n = 1; n <= 16; n++) {
            for (int off = 1; off <= 16; off++) {
                if (shows(n, zero, one, off) >= power && shows(n, one, one, off) <= wrong) {
                    tell(off);
                    return n;
                }
            }
        }
        return -2;
    }

    // kept

    private int keep(int i) {
        if (!in(i, 3)) {
            return 0;
        }
        kept.set(i, letters.stream().map(int[]::clone).toList());
        keptR[i] = r;
        return 1;
    }

    private int again(int i) {
        if (!in(i, 3) || keptR[i] == null || letters.size() < kept.get(i).size()) {
            return 0;
        }
        while (letters.size() > kept.get(i).size()) {
            letters.remove(letters.size() - 1);
        }
        for (int k = 0; k < letters.size(); k++) {
            System.arraycopy(kept.get(i).get(k), 6, letters.get(k), 6, 3);
        }
        r = keptR[i];
        askings.clear();
        return 1;
    }

    private int count(int what) {
        int lawBits = 0;
        int filterBits = 0;
        for (int i = 0; i < 6; i++) {
            lawBits |= laws[i] == null ? 0 : 1 << i;
            filterBits |= filters[i] == null ? 0 : 1 << i;
        }
        int[] counts = {names.size(), houses.size(), letters.size(), readOnes(l -> true).size(),
            rungOf(letters), lawBits, filterBits, askings.size(), row.size(), text.length()};
        return in(what, 10) ? counts[what] : -1;
    }
}
