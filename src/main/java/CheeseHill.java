import java.util.Arrays;

/** A cheese down a hill: what each call does and answers is told by the document, promise by promise. */
public final class CheeseHill {
    public static final int NONE = -1, BAD = -2, NO = -3, FULL = -4;

    private static final int MOST_ROWS = 8;
    private static final int MOST_LANES = 6;
    private static final int CELLS = MOST_ROWS * MOST_LANES;
    private static final int MOST_RUNNERS = 6;
    private static final int MOST_RUNS_OF_HURT = 8;
    private static final int MOST_UNDOS = 6;
    private static final int MOST_BYTES = 250;
    private static final int MOST_AMBULANCES = 3;

    private static final int TOP_SLOPE = 9;
    private static final int TOP_KIND = 4;
    private static final int TOP_START = 99;
    private static final int TOP_APART = 99;
    private static final int TOP_WEIGHT = 20;
    private static final int TOP_PACE = 20;
    private static final int NEVER = MOST_ROWS;

    private static final int GRASS = 0;
    private static final int TUSSOCK = 1;
    private static final int NETTLES = 2;
    private static final int HOLLOW = 3;

    private static final int STRAIGHT = 0;
    private static final int LEFT = 1;
    private static final int RIGHT = 2;

    private static final int BAD_BEGAN = -1000;
    private static final int BAD_WAITS = -10;
    private static final int NO_WAITS = -20;
    private static final int FALL_SIDES = 40;

    private Hill land = new Hill();
    private Hill spare = new Hill();
    private final Hill imageZero = new Hill();
    private final Hill imageOne = new Hill();
    private final Kinds kinds = new Kinds();
    private final Ways ways = new Ways();
    private final Guide guide = new Guide();
    private final Cheese wheel = new Cheese();
    private final Text text = new Text();
    private final int[] backAt = new int[MOST_AMBULANCES];
    private long above = 0;
    private long below = 1;
    private int refusedBad;
    private int refusedNo;
    private int refusedFull;

    public CheeseHill() {
        land.layOut(6, 5);
    }

    // ---- a hill

    public int hill(int h, int w) {
        if (!within(h, 1, MOST_ROWS) || !within(w, 1, MOST_LANES)) {
            return refuseBad(BAD);
        }
        land.layOut(h, w);
        return 1;
    }

    public int put(int what, int r, int l, int v) {
        if (!within(what, 0, 1) || !land.hasCell(r, l) || !within(v, 0, what == 0 ? TOP_SLOPE : HOLLOW)) {
            return refuseBad(BAD);
        }
        int[] cells = what == 0 ? land.slope : land.ground;
        int was = cells[cell(r, l)];
        cells[cell(r, l)] = v;
        return was;
    }

    public int at(int what, int r, int l) {
        if (!within(what, 0, 1) || !land.hasCell(r, l)) {
            return refuseBad(BAD);
        }
        return what == 0 ? land.slope[cell(r, l)] : land.ground[cell(r, l)];
    }

    public int runner(int kind, int lane, int start) {
        if (!within(kind, 0, TOP_KIND) || !within(lane, 0, land.lanes - 1) || !within(start, 0, TOP_START)) {
            return refuseBad(BAD);
        }
        if (land.runners >= MOST_RUNNERS) {
            return refuseFull();
        }
        land.addRunner(kind, lane, start);
        return land.runners - 1;
    }

    public int line(int i, int r, int s) {
        if (!land.hasRunner(i) || !land.hasRow(r) || !within(s, STRAIGHT, RIGHT)) {
            return refuseBad(BAD);
        }
        int was = land.line[onLine(i, r)];
        land.line[onLine(i, r)] = s;
        return was;
    }

    public int type(long v, int n) {
        if (!within(n, 1, 8)) {
            return refuseBad(BAD);
        }
        if (text.length + n > MOST_BYTES) {
            return refuseFull();
        }
        text.append(v, n);
        return text.length;
    }

    public int clear() {
        int had = text.length;
        text.length = 0;
        return had;
    }

    public int read() {
        int items = text.readInto(spare);
        if (items < 0) {
            return -10 - text.tokenPlace;
        }
        Hill old = land;
        land = spare;
        spare = old;
        return items;
    }

    // ---- runners

    public int goes(int i, int r, int what) {
        if (!land.hasRunner(i) || !land.hasRow(r) || !within(what, 0, 3)) {
            return refuseBad(BAD);
        }
        ways.follow(land, kinds, i, NEVER);
        switch (what) {
            case 0: return ways.lane[onWay(i, r)];
            case 1: return ways.pace[onWay(i, r)];
            case 2: return land.start[i] + ways.since[onWay(i, r)];
            default: return ways.harm[onWay(i, r)];
        }
    }

    public int down(int i, int what) {
        if (!land.hasRunner(i) || !within(what, 0, 2)) {
            return refuseBad(BAD);
        }
        ways.follow(land, kinds, i, NEVER);
        switch (what) {
            case 0: return downAt(i);
            case 1: return ways.harmInAll(i, land.rows);
            default: return ways.lane[onWay(i, land.rows)];
        }
    }

    public int best(int i, int w, int r) {
        if (!land.hasRunner(i) || !within(w, 0, TOP_WEIGHT) || (r != NONE && !land.hasRow(r))) {
            return refuseBad(BAD);
        }
        Upright kind = kinds.numbered(land.kind[i]);
        if (r == NONE) {
            return guide.least(land, kind, w, land.lane[i]);
        }
        return guide.stepIn(land, kind, w, land.lane[i], r);
    }

    public int fall(int i, int w) {
        if (!land.hasRunner(i) || !within(w, 0, TOP_WEIGHT)) {
            return refuseBad(BAD);
        }
        int least = costOfFall(i, w, NEVER);
        int from = NONE;
        for (int r = 0; r < land.rows; r++) {
            int cost = costOfFall(i, w, r);
            if (cost < least) {
                least = cost;
                from = r;
            }
        }
        return from;
    }

    public int place(int k) {
        if (k < 0) {
            return refuseBad(BAD);
        }
        ways.followAll(land, kinds);
        return runnerInPlace(k);
    }

    public int clashes() {
        ways.followAll(land, kinds);
        int pairs = 0;
        for (int i = 0; i < land.runners; i++) {
            for (int j = i + 1; j < land.runners; j++) {
                if (ways.meet(i, j, land.start[j] - land.start[i], land.rows)) {
                    pairs++;
                }
            }
        }
        return pairs;
    }

    public int apart() {
        ways.followAll(land, kinds);
        for (int d = 0; d <= TOP_APART; d++) {
            if (!anyMeetWhenApart(d)) {
                return d;
            }
        }
        return NONE;
    }

    public int began(int i, int time) {
        if (!land.hasRunner(i) || !within(time, 0, 999)) {
            return refuseBad(BAD_BEGAN);
        }
        ways.follow(land, kinds, i, NEVER);
        return time - ways.since[onWay(i, land.rows)];
    }

    // ---- the cheese

    public int cheese(int from, int lane) {
        if (!within(from, 0, land.lanes - 1) || !within(lane, 0, land.lanes - 1)) {
            return refuseBad(BAD);
        }
        wheel.roll(land, from);
        setFraction(wheel.parts[lane], 1L << land.rows);
        return 1;
    }

    public int fence(int from, int p) {
        if (!within(from, 0, land.lanes - 1) || !within(p, 1, 100)) {
            return refuseBad(BAD);
        }
        wheel.roll(land, from);
        int due = p * (1 << land.rows);
        for (int wide = 1; wide < land.lanes; wide++) {
            for (int first = 0; first + wide <= land.lanes; first++) {
                if (100 * wheel.partsWithin(first, first + wide - 1) >= due) {
                    return 10 * first + first + wide - 1;
                }
            }
        }
        return land.lanes - 1;
    }

    public int feet(int i) {
        if (!land.hasRunner(i)) {
            return refuseBad(BAD);
        }
        ways.follow(land, kinds, i, NEVER);
        long stays = 1;
        long all = 1;
        for (int r = 0; r < land.rows; r++) {
            stays *= FALL_SIDES - ways.pace[onWay(i, r)];
            all *= FALL_SIDES;
        }
        setFraction(stays, all);
        return 1;
    }

    public int catchers() {
        ways.followAll(land, kinds);
        int needed = 0;
        for (int i = 0; i < land.runners; i++) {
            needed |= 1 << ways.lane[onWay(i, land.rows)];
        }
        int all = (1 << land.lanes) - 1;
        int fewest = all;
        for (int bits = all; bits >= 0; bits--) {
            int caught = bits | bits << 1 | bits >> 1;
            if ((needed & ~caught) == 0 && Integer.bitCount(bits) <= Integer.bitCount(fewest)) {
                fewest = bits;
            }
        }
        return fewest;
    }

    public int bale() {
        int least = harmOfAll();
        int where = NONE;
        for (int r = 0; r < land.rows; r++) {
            for (int l = 0; l < land.lanes; l++) {
                int was = land.ground[cell(r, l)];
                land.ground[cell(r, l)] = HOLLOW;
                int harm = harmOfAll();
                land.ground[cell(r, l)] = was;
                if (harm < least) {
                    least = harm;
                    where = 10 * r + l;
                }
            }
        }
        return where;
    }

    // ---- runs

    public int run() {
        if (land.runners == 0) {
            return refuseNo(NO);
        }
        ways.followAll(land, kinds);
        int first = runnerInPlace(0);
        land.keepSlopes();
        wearSlopes();
        return first;
    }

    public int undo() {
        if (land.undos == 0) {
            return refuseNo(NO);
        }
        land.bringSlopesBack();
        return 1;
    }

    public int hurt(int n) {
        if (!within(n, 0, MOST_AMBULANCES)) {
            return refuseBad(BAD);
        }
        if (land.runsOfHurt >= MOST_RUNS_OF_HURT) {
            return refuseFull();
        }
        land.hurtIn[land.runsOfHurt] = n;
        land.runsOfHurt++;
        return land.runsOfHurt;
    }

    public int heal() {
        int had = land.runsOfHurt;
        land.runsOfHurt = 0;
        return had;
    }

    public int waits(int a, int m) {
        if (!within(a, 1, MOST_AMBULANCES) || !within(m, 1, 99)) {
            return refuseBad(BAD_WAITS);
        }
        if (land.mostHurt() > a) {
            return refuseNo(NO_WAITS);
        }
        // All are away equally long, so they come back in the order in which they went: a ring of a is enough.
        Arrays.fill(backAt, 0);
        int taken = 0;
        int wished = 0;
        int waited = 0;
        for (int k = 0; k < land.runsOfHurt; k++) {
            int needed = Math.max(1, land.hurtIn[k]);
            int begins = Math.max(wished, backAt[(taken + needed - 1) % a]);
            for (int n = 0; n < land.hurtIn[k]; n++) {
                backAt[taken % a] = begins + m;
                taken++;
            }
            waited += begins - wished;
            wished = begins + 1;
        }
        return waited;
    }

    public int drawn(int seed, int n) {
        if (!within(seed, 0, 999999) || !within(n, 0, 9)) {
            return refuseBad(BAD);
        }
        ways.followAll(land, kinds);
        long x = seed;
        int upright = (1 << land.runners) - 1;
        for (int k = 0; k < n; k++) {
            for (int i = 0; i < land.runners; i++) {
                for (int r = 0; r < land.rows && (upright >> i & 1) == 1; r++) {
                    x = (x * 1103515245L + 12345L) % 2147483648L;
                    if (x / 65536 % FALL_SIDES < ways.pace[onWay(i, r)]) {
                        upright ^= 1 << i;
                    }
                }
            }
        }
        return Integer.bitCount(upright);
    }

    // ---- what there is

    public long part(int what) {
        if (!within(what, 0, 1)) {
            return refuseBad(BAD);
        }
        return what == 0 ? above : below;
    }

    public int image(int i) {
        if (!within(i, 0, 1)) {
            return refuseBad(BAD);
        }
        imageNumbered(i).becomeLike(land);
        return 1;
    }

    public int from(int i) {
        if (!within(i, 0, 1)) {
            return refuseBad(BAD);
        }
        if (!imageNumbered(i).isLaidOut()) {
            return refuseNo(NO);
        }
        land.becomeLike(imageNumbered(i));
        return 1;
    }

    public int status(int what) {
        switch (what) {
            case 0: return refusedBad;
            case 1: return refusedNo;
            case 2: return refusedFull;
            default: return refuseBad(-1);
        }
    }

    public int count(int what) {
        return within(what, 0, 5) ? amountOf(what) : refuseBad(BAD);
    }

    public long digest() {
        long h = 809;
        for (int what = 0; what <= 5; what++) {
            h = 31 * h + amountOf(what);
        }
        for (int r = 0; r < land.rows; r++) {
            for (int l = 0; l < land.lanes; l++) {
                h = 31 * h + land.slope[cell(r, l)];
                h = 31 * h + land.ground[cell(r, l)];
            }
        }
        for (int i = 0; i < land.runners; i++) {
            h = 31 * h + land.kind[i];
            h = 31 * h + land.lane[i];
            h = 31 * h + land.start[i];
            for (int r = 0; r < land.rows; r++) {
                h = 31 * h + land.line[onLine(i, r)];
            }
        }
        for (int k = 0; k < land.runsOfHurt; k++) {
            h = 31 * h + land.hurtIn[k];
        }
        h = 31 * h + above;
        return 31 * h + below;
    }

    // ---- what the calls share

    private int refuseBad(int answer) {
        refusedBad++;
        return answer;
    }

    private int refuseNo(int answer) {
        refusedNo++;
        return answer;
    }

    private int refuseFull() {
        refusedFull++;
        return FULL;
    }

    private void setFraction(long newAbove, long newBelow) {
        long common = commonDivisor(newAbove, newBelow);
        if (common > 0) {
            above = newAbove / common;
            below = newBelow / common;
        }
    }

    private Hill imageNumbered(int i) {
        return i == 0 ? imageZero : imageOne;
    }

    private int amountOf(int what) {
        switch (what) {
            case 0: return land.rows;
            case 1: return land.lanes;
            case 2: return land.runners;
            case 3: return land.runsOfHurt;
            case 4: return land.undos;
            default: return text.length;
        }
    }

    private int downAt(int i) {
        return land.start[i] + ways.since[onWay(i, land.rows)];
    }

    private int costOfFall(int i, int weight, int fallRow) {
        ways.follow(land, kinds, i, fallRow);
        return ways.since[onWay(i, land.rows)] + weight * ways.harmInAll(i, land.rows);
    }

    private int runnerInPlace(int k) {
        for (int i = 0; i < land.runners; i++) {
            int ahead = 0;
            for (int j = 0; j < land.runners; j++) {
                if (downAt(j) < downAt(i) || (downAt(j) == downAt(i) && j < i)) {
                    ahead++;
                }
            }
            if (ahead == k) {
                return i;
            }
        }
        return NONE;
    }

    private boolean anyMeetWhenApart(int d) {
        for (int i = 0; i < land.runners; i++) {
            for (int j = i + 1; j < land.runners; j++) {
                if (ways.meet(i, j, (j - i) * d, land.rows)) {
                    return true;
                }
            }
        }
        return false;
    }

    private int harmOfAll() {
        int harm = 0;
        for (int i = 0; i < land.runners; i++) {
            ways.follow(land, kinds, i, NEVER);
            harm += ways.harmInAll(i, land.rows);
        }
        return harm;
    }

    private void wearSlopes() {
        for (int r = 0; r < land.rows; r++) {
            for (int l = 0; l < land.lanes; l++) {
                if (ways.goersIn(r, l, land.runners) >= 2) {
                    land.slope[cell(r, l)] = Math.min(TOP_SLOPE, land.slope[cell(r, l)] + 1);
                }
            }
        }
    }

    private static long commonDivisor(long a, long b) {
        long x = a;
        long y = b;
        for (int k = 0; k < 100 && y != 0; k++) {
            long rest = x % y;
            x = y;
            y = rest;
        }
        return x;
    }

    private static boolean within(int v, int least, int most) {
        return v >= least && v <= most;
    }

    private static int cell(int r, int l) {
        return r * MOST_LANES + l;
    }

    private static int onLine(int i, int r) {
        return i * MOST_ROWS + r;
    }

    /** A way has one more stop than there are rows: the foot. */
    private static int onWay(int i, int r) {
        return i * (MOST_ROWS + 1) + r;
    }

    /** All that an image keeps. No row at all: it was never laid out, or nothing was kept in it. */
    private static final class Hill {
        int rows;
        int lanes;
        int runners;
        int runsOfHurt;
        int undos;
        final int[] slope = new int[CELLS];
        final int[] ground = new int[CELLS];
        final int[] kind = new int[MOST_RUNNERS];
        final int[] lane = new int[MOST_RUNNERS];
        final int[] start = new int[MOST_RUNNERS];
        final int[] line = new int[MOST_RUNNERS * MOST_ROWS];
        final int[] hurtIn = new int[MOST_RUNS_OF_HURT];
        final int[] slopesAhead = new int[MOST_UNDOS * CELLS];

        void layOut(int h, int w) {
            rows = h;
            lanes = w;
            runners = 0;
            runsOfHurt = 0;
            undos = 0;
            Arrays.fill(slope, 3);
            Arrays.fill(ground, GRASS);
        }

        void becomeLike(Hill other) {
            rows = other.rows;
            lanes = other.lanes;
            runners = other.runners;
            runsOfHurt = other.runsOfHurt;
            undos = other.undos;
            System.arraycopy(other.slope, 0, slope, 0, CELLS);
            System.arraycopy(other.ground, 0, ground, 0, CELLS);
            System.arraycopy(other.kind, 0, kind, 0, MOST_RUNNERS);
            System.arraycopy(other.lane, 0, lane, 0, MOST_RUNNERS);
            System.arraycopy(other.start, 0, start, 0, MOST_RUNNERS);
            System.arraycopy(other.line, 0, line, 0, MOST_RUNNERS * MOST_ROWS);
            System.arraycopy(other.hurtIn, 0, hurtIn, 0, MOST_RUNS_OF_HURT);
            System.arraycopy(other.slopesAhead, 0, slopesAhead, 0, MOST_UNDOS * CELLS);
        }

        boolean isLaidOut() {
            return rows > 0;
        }

        boolean hasRow(int r) {
            return within(r, 0, rows - 1);
        }

        boolean hasCell(int r, int l) {
            return hasRow(r) && within(l, 0, lanes - 1);
        }

        boolean hasRunner(int i) {
            return within(i, 0, runners - 1);
        }

        int laneBeyond(int l, int s) {
            if (s == LEFT && l > 0) {
                return l - 1;
            }
            if (s == RIGHT && l < lanes - 1) {
                return l + 1;
            }
            return l;
        }

        void addRunner(int ofKind, int inLane, int atStart) {
            if (runners >= MOST_RUNNERS) {
                return;
            }
            kind[runners] = ofKind;
            lane[runners] = inLane;
            start[runners] = atStart;
            for (int r = 0; r < MOST_ROWS; r++) {
                line[onLine(runners, r)] = STRAIGHT;
            }
            runners++;
        }

        /** The oldest slopes are forgotten where there is no more room. */
        void keepSlopes() {
            if (undos >= MOST_UNDOS) {
                System.arraycopy(slopesAhead, CELLS, slopesAhead, 0, (MOST_UNDOS - 1) * CELLS);
                undos = MOST_UNDOS - 1;
            }
            System.arraycopy(slope, 0, slopesAhead, undos * CELLS, CELLS);
            undos++;
        }

        void bringSlopesBack() {
            if (undos > 0) {
                undos--;
                System.arraycopy(slopesAhead, undos * CELLS, slope, 0, CELLS);
            }
        }

        int mostHurt() {
            int most = 0;
            for (int k = 0; k < runsOfHurt; k++) {
                most = Math.max(most, hurtIn[k]);
            }
            return most;
        }
    }

    /** The kinds stand under one another as the document tells them; this one is above all. */
    private static class Upright {
        int newPace(int p, int slope, int ground, int row) {
            return Math.min(TOP_PACE, ownPace(p, slope, ground, row));
        }

        int ownPace(int p, int slope, int ground, int row) {
            return ground == HOLLOW ? 0 : p + slope / 2;
        }

        int timeIn(int ground, int newPace) {
            return 30 - newPace + (ground == NETTLES ? delayInNettles() : 0);
        }

        int delayInNettles() {
            return 5;
        }

        int harmIn(int ground, int p, int newPace) {
            if (ground == TUSSOCK && newPace >= 10) {
                return 2;
            }
            return ground == HOLLOW && p >= 6 ? 3 : 0;
        }
    }

    private static class Slider extends Upright {
        int ownPace(int p, int slope, int ground, int row) {
            if (ground == HOLLOW) {
                return super.ownPace(p, slope, ground, row);
            }
            return ground == TUSSOCK ? (p + slope) / 2 : p + slope;
        }
    }

    private static final class Tumbler extends Slider {
        int ownPace(int p, int slope, int ground, int row) {
            return super.ownPace(p, slope, felt(ground), row) + 2;
        }

        int delayInNettles() {
            return 0;
        }

        int harmIn(int ground, int p, int newPace) {
            return super.harmIn(felt(ground), p, newPace) + 1;
        }

        private static int felt(int ground) {
            return ground == HOLLOW ? GRASS : ground;
        }
    }

    private static final class Crawler extends Upright {
        int ownPace(int p, int slope, int ground, int row) {
            return Math.min(4, super.ownPace(p, slope, ground, row));
        }
    }

    private static final class Bold extends Upright {
        int ownPace(int p, int slope, int ground, int row) {
            if (row % 2 == 0) {
                return super.ownPace(p, slope, ground, row);
            }
            return ground == HOLLOW ? 0 : p + slope;
        }
    }

    private static final class Kinds {
        final Upright upright = new Upright();
        final Upright slider = new Slider();
        final Upright tumbler = new Tumbler();
        final Upright crawler = new Crawler();
        final Upright bold = new Bold();

        Upright numbered(int kind) {
            switch (kind) {
                case 1: return slider;
                case 2: return tumbler;
                case 3: return crawler;
                case 4: return bold;
                default: return upright;
            }
        }
    }

    /** The ways of all runners by their lines, as last followed; times are counted from each one's start. */
    private static final class Ways {
        final int[] lane = new int[MOST_RUNNERS * (MOST_ROWS + 1)];
        final int[] pace = new int[MOST_RUNNERS * (MOST_ROWS + 1)];
        final int[] since = new int[MOST_RUNNERS * (MOST_ROWS + 1)];
        final int[] harm = new int[MOST_RUNNERS * (MOST_ROWS + 1)];

        void followAll(Hill land, Kinds kinds) {
            for (int i = 0; i < land.runners; i++) {
                follow(land, kinds, i, NEVER);
            }
        }

        void follow(Hill land, Kinds kinds, int i, int fallRow) {
            Upright kind = kinds.numbered(land.kind[i]);
            int l = land.lane[i];
            int p = 0;
            int time = 0;
            for (int r = 0; r < land.rows; r++) {
                if (r >= fallRow) {
                    kind = kinds.tumbler;
                }
                int ground = land.ground[cell(r, l)];
                int next = kind.newPace(p, land.slope[cell(r, l)], ground, r);
                lane[onWay(i, r)] = l;
                pace[onWay(i, r)] = next;
                since[onWay(i, r)] = time;
                harm[onWay(i, r)] = kind.harmIn(ground, p, next);
                time += kind.timeIn(ground, next);
                l = land.laneBeyond(l, land.line[onLine(i, r)]);
                p = next;
            }
            lane[onWay(i, land.rows)] = l;
            since[onWay(i, land.rows)] = time;
        }

        int harmInAll(int i, int rows) {
            int sum = 0;
            for (int r = 0; r < rows; r++) {
                sum += harm[onWay(i, r)];
            }
            return sum;
        }

        /** Whether two are in one cell at one time, if j starts so much later than i. */
        boolean meet(int i, int j, int later, int rows) {
            for (int r = 0; r < rows; r++) {
                if (lane[onWay(i, r)] == lane[onWay(j, r)]
                        && since[onWay(i, r)] < since[onWay(j, r + 1)] + later
                        && since[onWay(j, r)] + later < since[onWay(i, r + 1)]) {
                    return true;
                }
            }
            return false;
        }

        int goersIn(int r, int l, int runners) {
            int goers = 0;
            for (int i = 0; i < runners; i++) {
                if (lane[onWay(i, r)] == l) {
                    goers++;
                }
            }
            return goers;
        }
    }

    /** Finds best lines. What is left to pay depends on row, lane and pace alone, so it is found once for each. */
    private static final class Guide {
        /** 0: not found yet, as every cell takes time. */
        private final int[] left = new int[CELLS * (TOP_PACE + 1)];

        int least(Hill land, Upright kind, int weight, int lane) {
            Arrays.fill(left, 0);
            return leastFrom(land, kind, weight, 0, lane, 0);
        }

        int stepIn(Hill land, Upright kind, int weight, int lane, int row) {
            Arrays.fill(left, 0);
            int l = lane;
            int p = 0;
            int step = STRAIGHT;
            for (int r = 0; r <= row && r < land.rows; r++) {
                p = kind.newPace(p, land.slope[cell(r, l)], land.ground[cell(r, l)], r);
                step = bestStep(land, kind, weight, r, l, p);
                l = land.laneBeyond(l, step);
            }
            return step;
        }

        private int bestStep(Hill land, Upright kind, int weight, int row, int lane, int newPace) {
            int best = STRAIGHT;
            int least = leastFrom(land, kind, weight, row + 1, lane, newPace);
            for (int s = LEFT; s <= RIGHT; s++) {
                int cost = leastFrom(land, kind, weight, row + 1, land.laneBeyond(lane, s), newPace);
                if (cost < least) {
                    least = cost;
                    best = s;
                }
            }
            return best;
        }

        /** Goes no deeper than there are rows. */
        private int leastFrom(Hill land, Upright kind, int weight, int row, int lane, int p) {
            if (row >= land.rows) {
                return 0;
            }
            int here = cell(row, lane) * (TOP_PACE + 1) + p;
            if (left[here] != 0) {
                return left[here];
            }
            int ground = land.ground[cell(row, lane)];
            int next = kind.newPace(p, land.slope[cell(row, lane)], ground, row);
            int step = bestStep(land, kind, weight, row, lane, next);
            left[here] = kind.timeIn(ground, next) + weight * kind.harmIn(ground, p, next)
                    + leastFrom(land, kind, weight, row + 1, land.laneBeyond(lane, step), next);
            return left[here];
        }
    }

    /** How likely the cheese comes to each lane, in parts of 2 to the number of rows: halved so often at most. */
    private static final class Cheese {
        final int[] parts = new int[MOST_LANES];
        private final int[] next = new int[MOST_LANES];

        void roll(Hill land, int lane) {
            Arrays.fill(parts, 0);
            parts[lane] = 1 << land.rows;
            for (int r = 0; r < land.rows; r++) {
                Arrays.fill(next, 0);
                for (int l = 0; l < land.lanes; l++) {
                    if (land.ground[cell(r, l)] == TUSSOCK) {
                        next[land.laneBeyond(l, LEFT)] += parts[l] / 2;
                        next[land.laneBeyond(l, RIGHT)] += parts[l] / 2;
                    } else {
                        next[l] += parts[l];
                    }
                }
                System.arraycopy(next, 0, parts, 0, MOST_LANES);
            }
        }

        int partsWithin(int first, int last) {
            int sum = 0;
            for (int l = first; l <= last && l < MOST_LANES; l++) {
                sum += parts[l];
            }
            return sum;
        }
    }

    /** The text, and its reading into a hill, token by token; at a fault the last token is the one at fault. */
    private static final class Text {
        private static final int END = 0;
        private static final int WORD = 1;
        private static final int NUMBER = 2;
        private static final int SEMICOLON = 3;
        private static final int WRONG = 4;

        private static final int FAULT = -1;

        final int[] bytes = new int[MOST_BYTES];
        int length;
        int tokenPlace;
        private int tokenEnd;
        private int token;

        void append(long v, int n) {
            for (int k = n - 1; k >= 0 && length < MOST_BYTES; k--) {
                bytes[length] = (int) (v >>> 8 * k & 255);
                length++;
            }
        }

        /** How many items, or below 0 at a fault; then the hill that was begun is worth nothing. */
        int readInto(Hill land) {
            tokenEnd = 0;
            nextToken();
            if (!readHill(land)) {
                return FAULT;
            }
            for (int items = 1; items <= MOST_BYTES; items++) {
                nextToken();
                if (token == END) {
                    return items;
                }
                if (!readItem(land)) {
                    return FAULT;
                }
            }
            return FAULT;
        }

        private boolean readHill(Hill land) {
            if (!isWord("hill")) {
                return false;
            }
            int h = nextNumber(1, MOST_ROWS);
            int w = h == FAULT ? FAULT : nextNumber(1, MOST_LANES);
            if (w == FAULT) {
                return false;
            }
            land.layOut(h, w);
            return nextIsSemicolon();
        }

        private boolean readItem(Hill land) {
            if (isWord("slope")) {
                return readCell(land, land.slope, TOP_SLOPE);
            }
            if (isWord("ground")) {
                return readCell(land, land.ground, HOLLOW);
            }
            if (isWord("runner")) {
                return readRunner(land);
            }
            return isWord("line") && readLine(land);
        }

        private boolean readCell(Hill land, int[] cells, int most) {
            int r = nextNumber(0, land.rows - 1);
            int l = r == FAULT ? FAULT : nextNumber(0, land.lanes - 1);
            int v = l == FAULT ? FAULT : nextNumber(0, most);
            if (v == FAULT) {
                return false;
            }
            cells[cell(r, l)] = v;
            return nextIsSemicolon();
        }

        private boolean readRunner(Hill land) {
            if (land.runners >= MOST_RUNNERS) {
                return false;
            }
            int kind = nextNumber(0, TOP_KIND);
            int lane = kind == FAULT ? FAULT : nextNumber(0, land.lanes - 1);
            int start = lane == FAULT ? FAULT : nextNumber(0, TOP_START);
            if (start == FAULT) {
                return false;
            }
            land.addRunner(kind, lane, start);
            return nextIsSemicolon();
        }

        private boolean readLine(Hill land) {
            int i = nextNumber(0, land.runners - 1);
            int r = i == FAULT ? FAULT : nextNumber(0, land.rows - 1);
            int s = r == FAULT ? FAULT : nextNumber(STRAIGHT, RIGHT);
            if (s == FAULT) {
                return false;
            }
            land.line[onLine(i, r)] = s;
            return nextIsSemicolon();
        }

        private int nextNumber(int least, int most) {
            nextToken();
            int figures = tokenEnd - tokenPlace;
            if (token != NUMBER || figures > 2) {
                return FAULT;
            }
            int v = 0;
            for (int k = tokenPlace; k < tokenEnd; k++) {
                v = 10 * v + bytes[k] - '0';
            }
            return within(v, least, most) ? v : FAULT;
        }

        private boolean nextIsSemicolon() {
            nextToken();
            return token == SEMICOLON;
        }

        private boolean isWord(String word) {
            if (token != WORD || tokenEnd - tokenPlace != word.length()) {
                return false;
            }
            for (int k = 0; k < word.length(); k++) {
                if (bytes[tokenPlace + k] != word.charAt(k)) {
                    return false;
                }
            }
            return true;
        }

        private void nextToken() {
            while (tokenEnd < length && bytes[tokenEnd] == ' ') {
                tokenEnd++;
            }
            tokenPlace = tokenEnd;
            token = END;
            if (tokenEnd < length) {
                token = tokenBegunBy(bytes[tokenEnd]);
                tokenEnd++;
            }
            boolean goesOn = token == WORD || token == NUMBER;
            while (goesOn && tokenEnd < length && tokenBegunBy(bytes[tokenEnd]) == token) {
                tokenEnd++;
            }
        }

        private static int tokenBegunBy(int b) {
            if (b >= 'a' && b <= 'z') {
                return WORD;
            }
            if (b >= '0' && b <= '9') {
                return NUMBER;
            }
            return b == ';' ? SEMICOLON : WRONG;
        }
    }
}
