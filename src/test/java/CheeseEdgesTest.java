/** The edges of promises 18 to 22: lanes at the side, chances of 0 and 1, hundredths that just do, likes, none. */
public final class CheeseEdgesTest {
    private static final Due DUE = new Due();
    private static final Twins TWINS = new Twins(DUE);
    private static final int T = 1;

    public static void main(String[] args) {
        promise18SidesOfTheHill();
        promise18EveryGround();
        promise18Refused();
        promise19JustEnough();
        promise19LikeOnes();
        promise19Refused();
        promise20Feet();
        promise20Refused();
        promise21Beside();
        promise21LikeOnes();
        promise22LessThanNow();
        promise22LikeOnes();
        DUE.end("CheeseEdgesTest");
    }

    private static void chance(String told, CheeseHill x, int from, int lane, long above, long below) {
        DUE.is(told + ": cheese(" + from + ", " + lane + ")", x.cheese(from, lane), 1);
        DUE.is(told + ": above", x.part(0), above);
        DUE.is(told + ": below", x.part(1), below);
    }

    /** So many rows and lanes, with tussocks in one lane all the way. */
    private static CheeseHill tussocks(int rows, int lanes, int lane) {
        CheeseHill x = new CheeseHill();
        x.hill(rows, lanes);
        for (int r = 0; r < rows; r++) {
            x.put(1, r, lane, T);
        }
        return x;
    }

    private static CheeseHill tussocksAllOver(int rows, int lanes) {
        CheeseHill x = new CheeseHill();
        x.hill(rows, lanes);
        for (int r = 0; r < rows; r++) {
            for (int l = 0; l < lanes; l++) {
                x.put(1, r, l, T);
            }
        }
        return x;
    }

    // "on a TUSSOCK to the left or to the right, each by a half; where there is no such LANE: straight on"
    private static void promise18SidesOfTheHill() {
        chance("18: one lane", tussocksAllOver(8, 1), 0, 0, 1, 1);
        CheeseHill two = tussocks(1, 2, 0);
        chance("18: no lane to the left", two, 0, 0, 1, 2);
        chance("18: to the right", two, 0, 1, 1, 2);
        chance("18: no tussock", two, 1, 1, 1, 1);
        chance("18: never", two, 1, 0, 0, 1);
        two = tussocks(1, 2, 1);
        chance("18: no lane to the right", two, 1, 1, 1, 2);
        chance("18: to the left", two, 1, 0, 1, 2);
        CheeseHill three = tussocks(1, 3, 1);
        chance("18: left of the middle", three, 1, 0, 1, 2);
        chance("18: the middle", three, 1, 1, 0, 1);
        chance("18: right of the middle", three, 1, 2, 1, 2);
        CheeseHill eight = tussocks(8, 2, 0);
        chance("18: eight halves", eight, 0, 0, 1, 256);
        chance("18: and what is left", eight, 0, 1, 255, 256);
        eight = tussocks(8, 6, 5);
        chance("18: eight halves, the last lane", eight, 5, 5, 1, 256);
        chance("18: beside it", eight, 5, 4, 255, 256);
        // 8 steps of one lane to a side, at the sides straight on
        CheeseHill all = tussocksAllOver(8, 6);
        long[] sixfold = new long[6];
        sixfold[0] = 256;
        for (int r = 0; r < 8; r++) {
            long[] next = new long[6];
            for (int l = 0; l < 6; l++) {
                next[Math.max(0, l - 1)] += sixfold[l] / 2;
                next[Math.min(5, l + 1)] += sixfold[l] / 2;
            }
            sixfold = next;
        }
        for (int l = 0; l < 6; l++) {
            all.cheese(0, l);
            DUE.is("18: all over, lane " + l, all.part(0) * (256 / all.part(1)), sixfold[l]);
        }
        CheeseHill last = new CheeseHill();
        last.hill(8, 2);
        last.put(1, 7, 0, T);
        chance("18: a tussock in the last row", last, 0, 1, 1, 2);
    }

    // straight on but for a TUSSOCK; slopes are nothing to it
    private static void promise18EveryGround() {
        for (int ground = 0; ground <= 3; ground++) {
            CheeseHill x = new CheeseHill();
            x.hill(1, 2);
            x.put(1, 0, 0, ground);
            x.put(0, 0, 0, 9);
            x.runner(0, 1, 0);
            chance("18: ground " + ground, x, 0, 0, 1, ground == T ? 2 : 1);
        }
    }

    private static void promise18Refused() {
        for (State s : State.values()) {
            TWINS.beyond("18: cheese, from", s, 0, s.lanes - 1, (x, v) -> x.cheese(v, 0));
            TWINS.beyond("18: cheese, LANE", s, 0, s.lanes - 1, (x, v) -> x.cheese(0, v));
            TWINS.bad("18: both are wrong, counted once", s, x -> x.cheese(-1, 6));
            CheeseHill x = s.make();
            DUE.is("18: the first and the last lane", x.cheese(0, s.lanes - 1), 1);
            DUE.is("18: the last and the first lane", x.cheese(s.lanes - 1, 0), 1);
            // But for the fraction nothing changes.
            CheeseHill y = s.make();
            y.cheese(s.lanes - 1, 0);
            TWINS.alike("18: the last one's chance stays [" + s + "]", x, y);
        }
    }

    // "by p of 100 at least", "p of 100 (1 .. 100)"
    private static void promise19JustEnough() {
        // in lane 0 by 1 of 2, 4, 8, .. 256: hundredths that are just enough
        int[] enough = {50, 25, 12, 6, 3, 1, 0, 0};
        for (int rows = 1; rows <= 8; rows++) {
            CheeseHill x = tussocks(rows, 2, 0);
            for (int p = 1; p <= 100; p++) {
                int due = p <= enough[rows - 1] ? 0 : 100 - p >= Math.ceil(100.0 / (1 << rows)) ? 11 : 1;
                DUE.is("19: " + rows + " rows, p = " + p, x.fence(0, p), due);
            }
        }
        CheeseHill sure = tussocks(8, 6, 0);
        DUE.is("19: a sure one, 1 of 100", sure.fence(5, 1), 55);
        DUE.is("19: a sure one, 100 of 100", sure.fence(5, 100), 55);
        DUE.is("19: 255 of 256 are 99 of 100", sure.fence(0, 99), 11);
        DUE.is("19: but not 100 of 100", sure.fence(0, 100), 1);
        CheeseHill one = tussocksAllOver(8, 1);
        DUE.is("19: one lane, 1 of 100", one.fence(0, 1), 0);
        DUE.is("19: one lane, 100 of 100", one.fence(0, 100), 0);
        CheeseHill wide = tussocksAllOver(8, 6);
        DUE.is("19: from side to side", wide.fence(0, 100), 5);
    }

    // "the fewest LANES side by side"; "of like ones the least"
    private static void promise19LikeOnes() {
        CheeseHill x = tussocks(1, 6, 4);
        // lanes 3 and 5 by a half each
        DUE.is("19: a half: the lesser lane", x.fence(4, 50), 33);
        DUE.is("19: more than a half: side by side", x.fence(4, 51), 35);
        DUE.is("19: all", x.fence(4, 100), 35);
        CheeseHill y = new CheeseHill();
        y.hill(2, 6);
        y.put(1, 0, 2, T);
        y.put(1, 1, 1, T);
        y.put(1, 1, 3, T);
        // lanes 0, 2, 4 by a fourth, a half, a fourth
        int[][] due = {{1, 0}, {25, 0}, {26, 22}, {50, 22}, {51, 2}, {75, 2}, {76, 4}, {100, 4}};
        for (int[] d : due) {
            DUE.is("19: of a fourth, a half, a fourth, " + d[0], y.fence(2, d[0]), d[1]);
        }
    }

    private static void promise19Refused() {
        for (State s : State.values()) {
            TWINS.beyond("19: fence, from", s, 0, s.lanes - 1, (x, v) -> x.fence(v, 50));
            TWINS.beyond("19: fence, p", s, 1, 100, (x, v) -> x.fence(0, v));
            TWINS.bad("19: both are wrong, counted once", s, x -> x.fence(-1, 0));
            TWINS.asks("19: fence, 1", s, x -> x.fence(s.lanes - 1, 1));
            TWINS.asks("19: fence, 100", s, x -> x.fence(0, 100));
        }
    }

    private static void feet(String told, CheeseHill x, int i, long above, long below) {
        DUE.is(told + ": feet", x.feet(i), 1);
        DUE.is(told + ": above", x.part(0), above);
        DUE.is(told + ": below", x.part(1), below);
    }

    // "the chance that one never falls, who falls in each CELL by new PACE of 40"; "lowest terms"
    private static void promise20Feet() {
        CheeseHill x = new CheeseHill();
        x.hill(1, 1);
        x.put(0, 0, 0, 0);
        x.runner(0, 0, 0);
        x.runner(2, 0, 0);
        feet("20: pace 0", x, 0, 1, 1);
        feet("20: pace 2", x, 1, 19, 20);
        x.hill(8, 1);
        for (int r = 0; r < 8; r++) {
            x.put(0, r, 0, 9);
        }
        x.runner(2, 0, 0);
        // 11, then 20 seven times: 29 by 40 by 2 by 2 ..
        feet("20: pace 20", x, 0, 29, 40 * 128);
        x.runner(3, 0, 0);
        feet("20: pace 4 eight times", x, 1, 43046721, 100000000);
        x.hill(8, 1);
        for (int r = 0; r < 8; r++) {
            x.put(0, r, 0, r == 0 ? 2 : 0);
        }
        x.runner(0, 0, 0);
        feet("20: 39 of 40 eight times", x, 0, 5352009260481L, 6553600000000L);
        x.put(1, 0, 0, 3);
        feet("20: never a pace at all", x, 0, 1, 1);
        CheeseHill less = State.FULLEST.make();
        less.feet(0);
        less.hill(1, 1);
        less.runner(0, 0, 0);
        feet("20: a hill that had more rows: pace 1", less, 0, 39, 40);
        x.cheese(0, 0);
        x.feet(0);
        DUE.is("20: below is above 0", x.part(1), 1);
    }

    private static void promise20Refused() {
        for (State s : State.values()) {
            TWINS.beyond("20: feet, RUNNER", s, 0, s.runners - 1, (x, v) -> x.feet(v));
            if (s.runners > 0) {
                CheeseHill x = s.make();
                DUE.is("20: the first", x.feet(0), 1);
                DUE.is("20: the last", x.feet(s.runners - 1), 1);
                CheeseHill y = s.make();
                y.feet(s.runners - 1);
                TWINS.alike("20: the last one's chance stays [" + s + "]", x, y);
            }
        }
    }

    private static int caught(int lanes, int... feet) {
        CheeseHill x = new CheeseHill();
        x.hill(1, lanes);
        for (int l : feet) {
            x.runner(0, l, 0);
        }
        return x.catchers();
    }

    // "each RUNNER comes to the foot in one of these, or beside one"
    private static void promise21Beside() {
        for (int w = 1; w <= 6; w++) {
            DUE.is("21: nobody, " + w + " lanes", caught(w), 0);
            for (int l = 0; l < w; l++) {
                DUE.is("21: one in lane " + l + " of " + w, caught(w, l), l == 0 ? 1 : 1 << l - 1);
            }
        }
        DUE.is("21: two beside each other", caught(6, 0, 1), 1);
        DUE.is("21: one between two", caught(6, 0, 2), 2);
        DUE.is("21: three in a row", caught(6, 3, 5, 4), 16);
        DUE.is("21: three apart are two catchers", caught(6, 0, 3), 5);
        DUE.is("21: both sides", caught(6, 0, 5), 17);
        DUE.is("21: all six", caught(6, 0, 1, 2, 3, 4, 5), 18);
        DUE.is("21: two in one lane", caught(6, 5, 5), 16);
        // The line's last step counts, the lane of the last row does not.
        CheeseHill x = new CheeseHill();
        x.hill(1, 6);
        x.runner(0, 4, 0);
        x.line(0, 0, 2);
        DUE.is("21: the foot", x.catchers(), 16);
        x.line(0, 0, 1);
        DUE.is("21: the foot to the left", x.catchers(), 4);
    }

    // "the fewest LANES (bits; of like ones the least bits)"
    private static void promise21LikeOnes() {
        DUE.is("21: 1 and 4: 0 and 3 are the least", caught(6, 1, 4), 9);
        DUE.is("21: 1 and 2: lane 1 is less than lane 2", caught(6, 1, 2), 2);
        DUE.is("21: 0 and 4: 0 and 3", caught(6, 0, 4), 9);
        DUE.is("21: 0, 2, 4: 0 and 3 ahead of 1 and 3", caught(6, 0, 2, 4), 9);
        DUE.is("21: fewer, though more in bits", caught(6, 3, 5), 16);
        for (State s : State.values()) {
            TWINS.asks("21: catchers", s, CheeseHill::catchers);
        }
    }

    /** One bold runner in the last lane of two; slopes of rows, ground of the last one. */
    private static CheeseHill bold(int lastGround, int... slopes) {
        CheeseHill x = new CheeseHill();
        x.hill(slopes.length, 2);
        for (int r = 0; r < slopes.length; r++) {
            x.put(0, r, 1, slopes[r]);
        }
        x.put(1, slopes.length - 1, 1, lastGround);
        x.runner(4, 1, 0);
        return x;
    }

    // "HARM of all RUNNERS is least, less than now"; "none"
    private static void promise22LessThanNow() {
        for (State s : State.values()) {
            TWINS.asks("22: bale", s, CheeseHill::bale);
        }
        TWINS.asks("22: nobody", State.FRESH, CheeseHill::bale, -1);
        // 4 and 6 are 10 on the tussock: harm 2; a hollow in row 0 leaves 6, one in row 1 is come into by 4
        TWINS.asks("22: row 0", () -> bold(T, 9, 6), CheeseHill::bale, 1);
        TWINS.asks("22: 9 on the tussock: no harm now", () -> bold(T, 9, 5), CheeseHill::bale, -1);
        // 0 and 9: 9; 0, 9, 9 and 1: 10 .. a hollow in row 0 changes nothing, in row 1 it leaves 1
        TWINS.asks("22: row 1", () -> bold(T, 0, 9, 0, 1), CheeseHill::bale, 11);
        // 4, 13, 17: harm 2; the hollow itself would be harm 3, in row 1 it is come into by 4
        TWINS.asks("22: not the tussock", () -> bold(T, 9, 9, 9), CheeseHill::bale, 11);
        // in the hollow harm 3 now: 4, 13, 0; a hollow in row 1 or 0 ..: 0, 9: harm 3; 4, 0, 0: none
        TWINS.asks("22: ahead of a hollow", () -> bold(3, 9, 9, 9), CheeseHill::bale, 11);
        TWINS.asks("22: a hollow of no harm", () -> bold(3, 9, 1, 9), CheeseHill::bale, -1);
        CheeseHill worse = bold(T, 9, 9, 9);
        for (int i = 0; i < 4; i++) {
            // slid through lane 0 into row 1 of lane 1 by 9: a hollow there were harm 3 for each
            worse.put(0, 0, 0, 9);
            worse.runner(1, 0, 0);
            worse.line(1 + i, 0, 2);
            worse.line(1 + i, 1, 1);
        }
        DUE.is("22: the harm of all counts", worse.bale(), -1);
    }

    // "of like ones the first (by ROWS, LANES)"
    private static void promise22LikeOnes() {
        // 4, 13, 13: harm 2; 0, 9, 9 and 4, 0, 0: none
        DUE.is("22: row 0 ahead of row 1", bold(T, 9, 9, 0).bale(), 1);
        CheeseHill x = new CheeseHill();
        x.hill(2, 6);
        for (int l : new int[] {5, 2}) {
            x.put(0, 0, l, 9);
            x.put(0, 1, l, 6);
            x.put(1, 1, l, T);
            x.runner(4, l, 0);
        }
        DUE.is("22: lane 2 ahead of lane 5", x.bale(), 2);
        x.put(1, 0, 2, 3);
        DUE.is("22: lane 5 is left", x.bale(), 5);
        x.put(1, 0, 5, 3);
        DUE.is("22: none is left", x.bale(), -1);
        CheeseHill first = new CheeseHill();
        first.hill(2, 1);
        first.put(0, 0, 0, 9);
        first.put(0, 1, 0, 6);
        first.put(1, 1, 0, T);
        first.runner(4, 0, 0);
        DUE.is("22: the first cell of all", first.bale(), 0);
        CheeseHill corner = new CheeseHill();
        corner.hill(8, 6);
        for (int r = 0; r < 8; r++) {
            corner.put(0, r, 5, r == 5 || r == 7 ? 5 : 0);
        }
        corner.put(1, 7, 5, T);
        corner.runner(4, 5, 0);
        // 5 from row 5 on, 10 on the tussock: a hollow in row 5 or 6 leaves 5; in row 7 it is come into by 5
        DUE.is("22: row 5 of like ones", corner.bale(), 55);
        corner.put(0, 5, 5, 0);
        corner.put(0, 6, 5, 2);
        corner.put(0, 7, 5, 9);
        // 1 in row 6, 10 on the tussock of row 7
        DUE.is("22: row 6", corner.bale(), 65);
        corner.put(0, 7, 5, 8);
        DUE.is("22: 9 on the tussock", corner.bale(), -1);
        corner.runner(2, 5, 0);
        corner.put(0, 7, 5, 9);
        corner.put(0, 6, 5, 0);
        // a tumbler's 14 into row 7, 13 on the tussock: a hollow is grass to him, so there alone it is less
        DUE.is("22: the last cell of all", corner.bale(), 75);
    }
}
