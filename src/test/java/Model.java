import java.math.BigInteger;
import java.util.ArrayList;
import java.util.Arrays;
import java.util.List;
import java.util.regex.Matcher;
import java.util.regex.Pattern;

/**
 * The document once more, as slow and as plain as can be: every line is tried, every way of the cheese is gone,
 * time goes tenth by tenth and minute by minute. Written apart from the class, to be held against it.
 */
final class Model {
    /** What an image keeps. */
    private static final class Keep {
        int[][] slope;
        int[][] ground;
        List<int[]> runners = new ArrayList<>(); // kind, lane, start
        List<int[]> lines = new ArrayList<>();
        List<Integer> hurt = new ArrayList<>();
        List<int[][]> ahead = new ArrayList<>();

        Keep(int h, int w) {
            slope = new int[h][w];
            ground = new int[h][w];
            for (int[] row : slope) {
                Arrays.fill(row, 3);
            }
        }

        Keep copy() {
            Keep k = new Keep(1, 1);
            k.slope = deep(slope);
            k.ground = deep(ground);
            for (int[] r : runners) k.runners.add(r.clone());
            for (int[] l : lines) k.lines.add(l.clone());
            k.hurt.addAll(hurt);
            for (int[][] a : ahead) k.ahead.add(deep(a));
            return k;
        }

        int h() { return slope.length; }
        int w() { return slope[0].length; }
    }

    private static int[][] deep(int[][] a) {
        int[][] b = new int[a.length][];
        for (int k = 0; k < a.length; k++) b[k] = a[k].clone();
        return b;
    }

    private Keep s = new Keep(6, 5);
    private final Keep[] images = new Keep[2];
    private final StringBuilder text = new StringBuilder();
    private BigInteger above = BigInteger.ZERO;
    private BigInteger below = BigInteger.ONE;
    private final int[] refused = new int[3];

    private int bad() { return bad(-2); }
    private int bad(int a) { refused[0]++; return a; }
    private int no(int a) { refused[1]++; return a; }
    private int full() { refused[2]++; return -4; }

    private boolean row(int r) { return r >= 0 && r < s.h(); }
    private boolean lane(int l) { return l >= 0 && l < s.w(); }
    private boolean one(int i) { return i >= 0 && i < s.runners.size(); }

    int hill(int h, int w) {
        if (h < 1 || h > 8 || w < 1 || w > 6) return bad();
        s = new Keep(h, w);
        return 1;
    }

    int put(int what, int r, int l, int v) {
        if (!row(r) || !lane(l) || v < 0) return bad();
        if (what == 0 && v <= 9) {
            int was = s.slope[r][l];
            s.slope[r][l] = v;
            return was;
        }
        if (what == 1 && v <= 3) {
            int was = s.ground[r][l];
            s.ground[r][l] = v;
            return was;
        }
        return bad();
    }

    int at(int what, int r, int l) {
        if (!row(r) || !lane(l) || what < 0 || what > 1) return bad();
        return (what == 0 ? s.slope : s.ground)[r][l];
    }

    int runner(int kind, int lane, int start) {
        if (kind < 0 || kind > 4 || !lane(lane) || start < 0 || start > 99) return bad();
        if (s.runners.size() == 6) return full();
        s.runners.add(new int[] {kind, lane, start});
        s.lines.add(new int[s.h()]);
        return s.runners.size() - 1;
    }

    int line(int i, int r, int v) {
        if (!one(i) || !row(r) || v < 0 || v > 2) return bad();
        int was = s.lines.get(i)[r];
        s.lines.get(i)[r] = v;
        return was;
    }

    int type(long v, int n) {
        if (n < 1 || n > 8) return bad();
        if (text.length() + n > 250) return full();
        byte[] all = BigInteger.valueOf(v).add(BigInteger.ONE.shiftLeft(72)).toByteArray();
        for (int k = all.length - n; k < all.length; k++) text.append((char) (all[k] & 255));
        return text.length();
    }

    int clear() {
        int n = text.length();
        text.setLength(0);
        return n;
    }

    int read() {
        List<String> tokens = new ArrayList<>();
        List<Integer> places = new ArrayList<>();
        Matcher m = Pattern.compile("[a-z]+|[0-9]+|;|[^ ]", Pattern.DOTALL).matcher(text);
        while (m.find()) {
            tokens.add(m.group());
            places.add(m.start());
        }
        places.add(text.length());
        Keep k = null;
        int t = 0;
        int items = 0;
        while (t < tokens.size() || items == 0) {
            String word = t < tokens.size() ? tokens.get(t) : "";
            int[][] bounds;
            if (k == null) {
                if (!word.equals("hill")) return -10 - places.get(t);
                bounds = new int[][] {{1, 8}, {1, 6}};
            } else if (word.equals("slope")) {
                bounds = new int[][] {{0, k.h() - 1}, {0, k.w() - 1}, {0, 9}};
            } else if (word.equals("ground")) {
                bounds = new int[][] {{0, k.h() - 1}, {0, k.w() - 1}, {0, 3}};
            } else if (word.equals("runner") && k.runners.size() < 6) {
                bounds = new int[][] {{0, 4}, {0, k.w() - 1}, {0, 99}};
            } else if (word.equals("line")) {
                bounds = new int[][] {{0, k.runners.size() - 1}, {0, k.h() - 1}, {0, 2}};
            } else {
                return -10 - places.get(t);
            }
            int[] v = new int[bounds.length];
            for (int b = 0; b < bounds.length; b++) {
                t++;
                if (t >= tokens.size() || !tokens.get(t).matches("[0-9]{1,2}")) return -10 - places.get(t);
                v[b] = Integer.parseInt(tokens.get(t));
                if (v[b] < bounds[b][0] || v[b] > bounds[b][1]) return -10 - places.get(t);
            }
            t++;
            if (t >= tokens.size() || !tokens.get(t).equals(";")) return -10 - places.get(t);
            t++;
            items++;
            switch (word) {
                case "hill" -> k = new Keep(v[0], v[1]);
                case "slope" -> k.slope[v[0]][v[1]] = v[2];
                case "ground" -> k.ground[v[0]][v[1]] = v[2];
                case "runner" -> {
                    k.runners.add(v);
                    k.lines.add(new int[k.h()]);
                }
                default -> k.lines.get(v[0])[v[1]] = v[2];
            }
        }
        s = k;
        return items;
    }

    private int beside(int l, int step) {
        int to = step == 1 ? l - 1 : step == 2 ? l + 1 : l;
        return lane(to) ? to : l;
    }

    private static int pace(int kind, int p, int slope, int ground, int row) {
        int q;
        switch (kind) {
            case 0: q = ground == 3 ? 0 : p + slope / 2; break;
            case 1: q = ground == 3 ? 0 : ground == 1 ? (p + slope) / 2 : p + slope; break;
            case 2: q = 2 + (ground == 1 ? (p + slope) / 2 : p + slope); break;
            case 3: q = ground == 3 ? 0 : Math.min(4, p + slope / 2); break;
            default: q = ground == 3 ? 0 : row % 2 == 0 ? p + slope / 2 : p + slope; break;
        }
        return q > 20 ? 20 : q;
    }

    /** Rows of lane, new pace, time, harm; behind them one with the lane at the foot. */
    private int[][] way(int kind, int lane, int[] line, int fallRow) {
        int[][] rows = new int[s.h() + 1][4];
        int p = 0;
        for (int r = 0; r < s.h(); r++) {
            int k = r >= fallRow ? 2 : kind;
            int g = s.ground[r][lane];
            int q = pace(k, p, s.slope[r][lane], g, r);
            int time = 30 - q;
            if (g == 2 && k != 2) time += 5;
            int harm = 0;
            if (g == 1 && q >= 10) harm += 2;
            if (g == 3 && p >= 6 && k != 2) harm += 3;
            if (k == 2) harm += 1;
            rows[r] = new int[] {lane, q, time, harm};
            lane = beside(lane, line[r]);
            p = q;
        }
        rows[s.h()][0] = lane;
        return rows;
    }

    private int[][] way(int i) {
        int[] one = s.runners.get(i);
        return way(one[0], one[1], s.lines.get(i), 99);
    }

    private static int sum(int[][] way, int column, int upTo) {
        int sum = 0;
        for (int r = 0; r < upTo; r++) sum += way[r][column];
        return sum;
    }

    private int downOf(int i) { return s.runners.get(i)[2] + sum(way(i), 2, s.h()); }

    int goes(int i, int r, int what) {
        if (!one(i) || !row(r) || what < 0 || what > 3) return bad();
        if (what == 2) return s.runners.get(i)[2] + sum(way(i), 2, r);
        return way(i)[r][what];
    }

    int down(int i, int what) {
        if (!one(i) || what < 0 || what > 2) return bad();
        return what == 0 ? downOf(i) : what == 1 ? sum(way(i), 3, s.h()) : way(i)[s.h()][0];
    }

    int best(int i, int w, int r) {
        if (!one(i) || w < 0 || w > 20 || r < -1 || r >= s.h()) return bad();
        int least = Integer.MAX_VALUE;
        int[] bestLine = null;
        int all = (int) Math.round(Math.pow(3, s.h()));
        for (int n = 0; n < all; n++) {
            int[] line = new int[s.h()];
            int rest = n;
            for (int k = s.h() - 1; k >= 0; k--) {
                line[k] = rest % 3;
                rest /= 3;
            }
            int[][] way = way(s.runners.get(i)[0], s.runners.get(i)[1], line, 99);
            int cost = sum(way, 2, s.h()) + w * sum(way, 3, s.h());
            if (cost < least) {
                least = cost;
                bestLine = line;
            }
        }
        return r == -1 ? least : bestLine[r];
    }

    int fall(int i, int w) {
        if (!one(i) || w < 0 || w > 20) return bad();
        int[] one = s.runners.get(i);
        int[] cost = new int[s.h() + 1];
        for (int f = 0; f <= s.h(); f++) {
            int[][] way = way(one[0], one[1], s.lines.get(i), f);
            cost[f] = sum(way, 2, s.h()) + w * sum(way, 3, s.h());
        }
        int least = Arrays.stream(cost).min().getAsInt();
        if (least == cost[s.h()]) return -1;
        int f = 0;
        while (cost[f] != least) f++;
        return f;
    }

    int place(int k) {
        if (k < 0) return bad();
        List<Integer> order = new ArrayList<>();
        for (int i = 0; i < s.runners.size(); i++) order.add(i);
        order.sort((a, b) -> Integer.compare(downOf(a), downOf(b)));
        return k < order.size() ? order.get(k) : -1;
    }

    /** The cell in which one is in each tenth from 0 on; -1 for none. */
    private int[] tenths(int i, int start) {
        int[] at = new int[900];
        Arrays.fill(at, -1);
        int[][] way = way(i);
        int t = start;
        for (int r = 0; r < s.h(); r++) {
            for (int k = 0; k < way[r][2]; k++) at[t++] = 10 * r + way[r][0];
        }
        return at;
    }

    private int clashesBy(int[] starts) {
        int pairs = 0;
        for (int i = 0; i < starts.length; i++) {
            int[] a = tenths(i, starts[i]);
            for (int j = 0; j < i; j++) {
                int[] b = tenths(j, starts[j]);
                boolean clash = false;
                for (int t = 0; t < a.length; t++) clash |= a[t] >= 0 && a[t] == b[t];
                if (clash) pairs++;
            }
        }
        return pairs;
    }

    int clashes() {
        return clashesBy(s.runners.stream().mapToInt(one -> one[2]).toArray());
    }

    int apart() {
        for (int d = 0; d <= 99; d++) {
            int[] starts = new int[s.runners.size()];
            for (int i = 0; i < starts.length; i++) starts[i] = i * d;
            if (clashesBy(starts) == 0) return d;
        }
        return -1;
    }

    int began(int i, int time) {
        if (!one(i) || time < 0 || time > 999) return bad(-1000);
        return time - (downOf(i) - s.runners.get(i)[2]);
    }

    /** Every choice of sides in every row is as likely as any other, so the feet are but counted. */
    private int[] feetOfCheese(int from) {
        int[] feet = new int[s.w()];
        for (int sides = 0; sides < 1 << s.h(); sides++) {
            int l = from;
            for (int r = 0; r < s.h(); r++) {
                if (s.ground[r][l] == 1) l = beside(l, (sides >> r & 1) + 1);
            }
            feet[l]++;
        }
        return feet;
    }

    private void fraction(BigInteger a, BigInteger b) {
        BigInteger g = a.gcd(b);
        above = a.divide(g);
        below = b.divide(g);
    }

    int cheese(int from, int lane) {
        if (!lane(from) || !lane(lane)) return bad();
        fraction(BigInteger.valueOf(feetOfCheese(from)[lane]), BigInteger.valueOf(1 << s.h()));
        return 1;
    }

    int fence(int from, int p) {
        if (!lane(from) || p < 1 || p > 100) return bad();
        int[] feet = feetOfCheese(from);
        int[] best = null;
        for (int a = 0; a < s.w(); a++) {
            for (int b = a; b < s.w(); b++) {
                int sum = 0;
                for (int l = a; l <= b; l++) sum += feet[l];
                if (sum * 100 >= p << s.h() && (best == null || b - a < best[1] - best[0])) best = new int[] {a, b};
            }
        }
        return 10 * best[0] + best[1];
    }

    int feet(int i) {
        if (!one(i)) return bad();
        BigInteger a = BigInteger.ONE;
        for (int[] cell : Arrays.copyOf(way(i), s.h())) a = a.multiply(BigInteger.valueOf(40 - cell[1]));
        fraction(a, BigInteger.valueOf(40).pow(s.h()));
        return 1;
    }

    int catchers() {
        for (int many = 0; many <= s.w(); many++) {
            for (int bits = 0; bits < 1 << s.w(); bits++) {
                boolean all = Integer.bitCount(bits) == many;
                for (int i = 0; i < s.runners.size(); i++) {
                    int foot = way(i)[s.h()][0];
                    boolean caught = false;
                    for (int l = 0; l < s.w(); l++) caught |= (bits >> l & 1) == 1 && Math.abs(l - foot) <= 1;
                    all &= caught;
                }
                if (all) return bits;
            }
        }
        throw new IllegalStateException();
    }

    private int harmOfAll() {
        int sum = 0;
        for (int i = 0; i < s.runners.size(); i++) sum += sum(way(i), 3, s.h());
        return sum;
    }

    int bale() {
        int now = harmOfAll();
        int least = now;
        int where = -1;
        Keep kept = s;
        for (int r = 0; r < kept.h(); r++) {
            for (int l = 0; l < kept.w(); l++) {
                s = kept.copy();
                s.ground[r][l] = 3;
                int harm = harmOfAll();
                if (harm < least) {
                    least = harm;
                    where = 10 * r + l;
                }
            }
        }
        s = kept;
        return where;
    }

    int run() {
        if (s.runners.isEmpty()) return no(-3);
        int first = place(0);
        s.ahead.add(deep(s.slope));
        if (s.ahead.size() > 6) s.ahead.remove(0);
        int[][] goers = new int[s.h()][s.w()];
        for (int i = 0; i < s.runners.size(); i++) {
            for (int r = 0; r < s.h(); r++) goers[r][way(i)[r][0]] ++;
        }
        for (int r = 0; r < s.h(); r++) {
            for (int l = 0; l < s.w(); l++) {
                if (goers[r][l] >= 2 && s.slope[r][l] < 9) s.slope[r][l]++;
            }
        }
        return first;
    }

    int undo() {
        if (s.ahead.isEmpty()) return no(-3);
        s.slope = s.ahead.remove(s.ahead.size() - 1);
        return 1;
    }

    int hurt(int n) {
        if (n < 0 || n > 3) return bad();
        if (s.hurt.size() == 8) return full();
        s.hurt.add(n);
        return s.hurt.size();
    }

    int heal() {
        int n = s.hurt.size();
        s.hurt.clear();
        return n;
    }

    int waits(int a, int m) {
        if (a < 1 || a > 3 || m < 1 || m > 99) return bad(-10);
        for (int n : s.hurt) {
            if (n > a) return no(-20);
        }
        int[] left = new int[a]; // minutes till each is there again
        int waited = 0;
        int k = 0;
        while (k < s.hurt.size()) {
            int there = 0;
            for (int l : left) there += l == 0 ? 1 : 0;
            if (there > 0 && there >= s.hurt.get(k)) {
                int take = s.hurt.get(k);
                for (int j = 0; j < a; j++) {
                    if (left[j] == 0 && take > 0) {
                        left[j] = m;
                        take--;
                    }
                }
                k++;
            } else {
                waited++;
            }
            for (int j = 0; j < a; j++) left[j] = Math.max(0, left[j] - 1);
        }
        return waited;
    }

    int drawn(int seed, int n) {
        if (seed < 0 || seed > 999999 || n < 0 || n > 9) return bad();
        BigInteger x = BigInteger.valueOf(seed);
        List<Integer> standing = new ArrayList<>();
        for (int i = 0; i < s.runners.size(); i++) standing.add(i);
        for (int k = 0; k < n; k++) {
            List<Integer> still = new ArrayList<>();
            for (int i : standing) {
                boolean fell = false;
                int[][] way = way(i);
                for (int r = 0; r < s.h() && !fell; r++) {
                    x = x.multiply(BigInteger.valueOf(1103515245)).add(BigInteger.valueOf(12345))
                        .mod(BigInteger.valueOf(2147483648L));
                    fell = x.intValue() / 65536 % 40 < way[r][1];
                }
                if (!fell) still.add(i);
            }
            standing = still;
        }
        return standing.size();
    }

    long part(int what) {
        if (what != 0 && what != 1) return bad();
        return (what == 0 ? above : below).longValueExact();
    }

    int image(int i) {
        if (i != 0 && i != 1) return bad();
        images[i] = s.copy();
        return 1;
    }

    int from(int i) {
        if (i != 0 && i != 1) return bad();
        if (images[i] == null) return no(-3);
        s = images[i].copy();
        return 1;
    }

    int status(int what) {
        return what < 0 || what > 2 ? bad(-1) : refused[what];
    }

    int count(int what) {
        switch (what) {
            case 0: return s.h();
            case 1: return s.w();
            case 2: return s.runners.size();
            case 3: return s.hurt.size();
            case 4: return s.ahead.size();
            case 5: return text.length();
            default: return bad();
        }
    }

    long digest() {
        List<Long> all = new ArrayList<>();
        for (int k = 0; k <= 5; k++) all.add((long) count(k));
        for (int r = 0; r < s.h(); r++) {
            for (int l = 0; l < s.w(); l++) {
                all.add((long) s.slope[r][l]);
                all.add((long) s.ground[r][l]);
            }
        }
        for (int i = 0; i < s.runners.size(); i++) {
            for (int v : s.runners.get(i)) all.add((long) v);
            for (int v : s.lines.get(i)) all.add((long) v);
        }
        for (int n : s.hurt) all.add((long) n);
        all.add(above.longValueExact());
        all.add(below.longValueExact());
        long h = 809;
        for (long v : all) h = 31 * h + v;
        return h;
    }
}
