/** The edges of promises 10 to 17: paces, times and harm at their bounds, lanes that are not there, likes, touches, none. */
public final class RunnersEdgesTest {
    private static final Due DUE = new Due();
    private static final Twins TWINS = new Twins(DUE);
    private static final int G = 0;
    private static final int T = 1;
    private static final int N = 2;
    private static final int H = 3;

    public static void main(String[] args) {
        promise10Upright();
        promise10Slider();
        promise10Tumbler();
        promise10Crawler();
        promise10Bold();
        promise10Lanes();
        promise10Start();
        promise10Refused();
        promise11Down();
        promise11Refused();
        promise12HowMuch();
        promise12ByLaneAndPace();
        promise12LikeOnes();
        promise12Refused();
        promise13Fall();
        promise13Refused();
        promise14Place();
        promise15Touch();
        promise15OneCell();
        promise16LeastApart();
        promise16Edges();
        promise17Began();
        DUE.end("RunnersEdgesTest");
    }

    /** One lane; each two numbers are a row's slope and ground. One runner of a kind, who starts at 0. */
    private static CheeseHill lane(int kind, int... cells) {
        CheeseHill x = new CheeseHill();
        x.hill(cells.length / 2, 1);
        for (int k = 0; k < cells.length; k += 2) {
            x.put(0, k / 2, 0, cells[k]);
            x.put(1, k / 2, 0, cells[k + 1]);
        }
        x.runner(kind, 0, 0);
        return x;
    }

    /** What becomes of him in the last row. */
    private static void last(int kind, int pace, int time, int harm, int... cells) {
        CheeseHill x = lane(kind, cells);
        int r = cells.length / 2 - 1;
        String told = "10: kind " + kind + " in the last of " + java.util.Arrays.toString(cells);
        DUE.is(told + ": pace", x.goes(0, r, 1), pace);
        DUE.is(told + ": time", x.down(0, 0) - x.goes(0, r, 2), time);
        DUE.is(told + ": harm", x.goes(0, r, 3), harm);
    }

    // "0 UPRIGHT: p and half of SLOPE, cut; in a HOLLOW 0"; "20 at most"; "5 in NETTLES"; "10 or more"; "6 or more"
    private static void promise10Upright() {
        int[] halves = {0, 0, 1, 1, 2, 2, 3, 3, 4, 4};
        for (int slope = 0; slope <= 9; slope++) {
            last(0, halves[slope], 30 - halves[slope], 0, slope, G);
            last(0, halves[slope], 30 - halves[slope], 0, slope, T);
            last(0, halves[slope], 35 - halves[slope], 0, slope, N);
            last(0, 0, 30, 0, slope, H);
        }
        last(0, 1, 29, 0, 1, G, 1, G, 2, G);
        last(0, 9, 21, 0, 9, G, 9, G, 2, T);
        last(0, 9, 21, 0, 9, G, 9, G, 3, T);
        last(0, 10, 20, 2, 9, G, 9, G, 4, T);
        last(0, 11, 19, 2, 9, G, 9, G, 6, T);
        last(0, 10, 20, 0, 9, G, 9, G, 4, G);
        last(0, 10, 25, 0, 9, G, 9, G, 4, N);
        last(0, 0, 30, 0, 9, G, 2, G, 9, H);
        last(0, 0, 30, 3, 9, G, 4, G, 9, H);
        last(0, 0, 30, 3, 9, G, 6, G, 0, H);
        last(0, 4, 26, 0, 9, G, 9, G, 9, H, 9, G);
        last(0, 0, 30, 0, 9, G, 9, G, 9, H, 9, H);
        last(0, 19, 11, 0, 9, G, 9, G, 9, G, 9, G, 6, G);
        last(0, 20, 10, 0, 9, G, 9, G, 9, G, 9, G, 9, G);
        last(0, 20, 10, 0, 9, G, 9, G, 9, G, 9, G, 6, G, 2, G);
        last(0, 20, 10, 0, 9, G, 9, G, 9, G, 9, G, 6, G, 4, G);
        last(0, 20, 10, 0, 9, G, 9, G, 9, G, 9, G, 9, G, 9, G, 9, G, 9, G);
        last(0, 20, 15, 0, 9, G, 9, G, 9, G, 9, G, 9, G, 9, N);
        last(0, 20, 10, 2, 9, G, 9, G, 9, G, 9, G, 9, G, 9, T);
        last(0, 0, 30, 3, 9, G, 9, G, 9, G, 9, G, 9, G, 9, H);
    }

    // "1 SLIDER: p and SLOPE, on a TUSSOCK half of that, cut; in a HOLLOW as UPRIGHT"
    private static void promise10Slider() {
        for (int slope = 0; slope <= 9; slope++) {
            last(1, slope, 30 - slope, 0, slope, G);
            last(1, slope / 2, 30 - slope / 2, 0, slope, T);
            last(1, slope, 35 - slope, 0, slope, N);
            last(1, 0, 30, 0, slope, H);
        }
        last(1, 3, 27, 0, 3, G, 4, T);
        last(1, 4, 26, 0, 3, G, 5, T);
        last(1, 9, 21, 0, 9, G, 9, T);
        last(1, 9, 21, 0, 9, G, 9, G, 1, T);
        last(1, 10, 20, 2, 9, G, 9, G, 2, T);
        last(1, 11, 19, 2, 9, G, 9, G, 4, T);
        last(1, 0, 30, 0, 5, G, 9, H);
        last(1, 0, 30, 3, 6, G, 9, H);
        last(1, 0, 30, 3, 7, G, 9, H);
        last(1, 19, 11, 0, 9, G, 9, G, 1, G);
        last(1, 20, 10, 0, 9, G, 9, G, 2, G);
        last(1, 20, 10, 0, 9, G, 9, G, 3, G);
        last(1, 20, 15, 0, 9, G, 9, G, 9, N);
        // 20 at most of the new pace, not of what is halved
        last(1, 14, 16, 2, 9, G, 9, G, 9, G, 9, T);
        last(1, 9, 21, 0, 9, G, 9, G, 9, H, 9, G);
    }

    // "2 TUMBLER: 2 more than a SLIDER's (a HOLLOW is GRASS to him)"; "(TUMBLERS: 0)"; "and 1, if he is a TUMBLER"
    private static void promise10Tumbler() {
        for (int slope = 0; slope <= 9; slope++) {
            last(2, slope + 2, 28 - slope, 1, slope, G);
            last(2, slope / 2 + 2, 28 - slope / 2, 1, slope, T);
            last(2, slope + 2, 28 - slope, 1, slope, N);
            last(2, slope + 2, 28 - slope, 1, slope, H);
        }
        last(2, 9, 21, 1, 9, G, 3, T);
        last(2, 9, 21, 1, 9, G, 4, T);
        last(2, 10, 20, 3, 9, G, 5, T);
        last(2, 11, 19, 3, 9, G, 7, T);
        last(2, 7, 23, 1, 3, G, 0, H);
        last(2, 8, 22, 1, 4, G, 0, H);
        last(2, 9, 21, 1, 5, G, 0, H);
        last(2, 19, 11, 1, 9, G, 6, G);
        last(2, 20, 10, 1, 9, G, 7, G);
        last(2, 20, 10, 1, 9, G, 8, G);
        last(2, 20, 10, 1, 9, G, 9, H);
        last(2, 20, 10, 1, 9, G, 9, N);
        last(2, 16, 14, 3, 9, G, 9, G, 9, T);
    }

    // "3 CRAWLER: as UPRIGHT, 4 at most"
    private static void promise10Crawler() {
        last(3, 3, 27, 0, 7, G);
        last(3, 4, 26, 0, 8, G);
        last(3, 4, 26, 0, 9, G);
        last(3, 4, 26, 0, 6, G, 2, G);
        last(3, 4, 26, 0, 6, G, 4, G);
        last(3, 4, 26, 0, 9, G, 9, G, 9, G, 9, G, 9, G);
        last(3, 4, 26, 0, 9, G, 9, G, 9, T);
        last(3, 4, 31, 0, 9, G, 9, N);
        last(3, 0, 30, 0, 9, G, 9, G, 9, H);
        last(3, 1, 29, 0, 9, G, 9, H, 3, G);
        last(3, 0, 30, 0, 1, G);
    }

    // "4 BOLD: in even ROWS as UPRIGHT; in odd ones p and SLOPE, in a HOLLOW 0"
    private static void promise10Bold() {
        last(4, 4, 26, 0, 9, G);
        last(4, 0, 30, 0, 9, H);
        last(4, 9, 21, 0, 0, G, 9, G);
        last(4, 1, 29, 0, 1, G, 1, G);
        last(4, 4, 26, 0, 0, G, 0, G, 9, G);
        last(4, 9, 21, 0, 0, G, 0, G, 0, G, 9, G);
        last(4, 4, 26, 0, 0, G, 0, G, 0, G, 0, G, 0, G, 0, G, 9, G);
        last(4, 9, 21, 0, 0, G, 0, G, 0, G, 0, G, 0, G, 0, G, 0, G, 9, G);
        last(4, 0, 30, 0, 9, G, 9, H);
        last(4, 9, 21, 0, 9, G, 5, T);
        last(4, 10, 20, 2, 9, G, 6, T);
        last(4, 11, 19, 2, 9, G, 7, T);
        last(4, 13, 22, 0, 9, G, 9, N);
        last(4, 0, 30, 0, 9, G, 1, G, 9, H);
        last(4, 0, 30, 3, 9, G, 2, G, 9, H);
        last(4, 0, 30, 3, 9, G, 3, G, 9, H);
        last(4, 0, 30, 3, 9, G, 9, G, 9, G, 9, H);
        last(4, 19, 11, 0, 9, G, 9, G, 9, G, 2, G);
        last(4, 20, 10, 0, 9, G, 9, G, 9, G, 3, G);
        last(4, 20, 10, 0, 9, G, 9, G, 9, G, 4, G);
        last(4, 19, 11, 0, 9, G, 9, G, 9, G, 0, G, 4, G);
        last(4, 20, 10, 0, 9, G, 9, G, 9, G, 0, G, 6, G);
        last(4, 20, 10, 0, 9, G, 9, G, 9, G, 0, G, 8, G);
    }

    // "where there is no such LANE: straight on; behind the last ROW: to the foot"
    private static void promise10Lanes() {
        for (int w = 1; w <= 6; w++) {
            for (int from = 0; from < w; from++) {
                CheeseHill x = new CheeseHill();
                x.hill(8, w);
                for (int s = 0; s <= 2; s++) {
                    x.runner(0, from, 0);
                    for (int r = 0; r < 8; r++) {
                        x.line(s, r, s);
                    }
                }
                for (int r = 0; r <= 8; r++) {
                    int[] lanes = {from, Math.max(0, from - r), Math.min(w - 1, from + r)};
                    for (int s = 0; s <= 2; s++) {
                        long got = r < 8 ? x.goes(s, r, 0) : x.down(s, 2);
                        DUE.is("10: " + w + " lanes, from " + from + " by " + s + ", row " + r, got, lanes[s]);
                    }
                }
            }
        }
        CheeseHill y = new CheeseHill();
        y.hill(3, 3);
        y.runner(0, 1, 0);
        y.line(0, 2, 1);
        DUE.is("10: the last row's step is not of its own cell", y.goes(0, 2, 0), 1);
        DUE.is("11: but of the foot", y.down(0, 2), 0);
        y.line(0, 2, 2);
        DUE.is("11: the foot to the right", y.down(0, 2), 2);
    }

    // "a START (0 .. 99)"; "from when he comes into it (ROW 0: START) to when he leaves it"
    private static void promise10Start() {
        for (int start : new int[] {0, 1, 98, 99}) {
            CheeseHill x = new CheeseHill();
            x.hill(2, 1);
            x.runner(0, 0, start);
            DUE.is("10: row 0 at START", x.goes(0, 0, 2), start);
            DUE.is("10: row 1", x.goes(0, 1, 2), start + 29);
            DUE.is("11: DOWN as he leaves the last ROW", x.down(0, 0), start + 57);
        }
        // Of a hill that had more rows nothing is left.
        CheeseHill less = State.FULLEST.make();
        less.clashes();
        less.hill(1, 2);
        less.runner(2, 0, 0);
        less.runner(2, 1, 0);
        less.line(1, 0, 1);
        DUE.is("11: harm of one row", less.down(0, 1), 1);
        DUE.is("15: at the foot nobody clashes", less.clashes(), 0);
        CheeseHill tumbled = lane(2, 9, G, 9, G, 9, G);
        tumbled.down(0, 1);
        tumbled.hill(1, 1);
        tumbled.runner(0, 0, 0);
        DUE.is("11: harm of one row, where a tumbler had three", tumbled.down(0, 1), 0);
        CheeseHill slow = lane(0, 0, N, 0, N, 0, N, 0, N, 0, N, 0, N, 0, N, 0, N);
        DUE.is("11: the slowest of all ways", slow.down(0, 0), 280);
    }

    private static void promise10Refused() {
        for (State s : State.values()) {
            TWINS.beyond("10: goes, RUNNER", s, 0, s.runners - 1, (x, v) -> x.goes(v, 0, 0));
            TWINS.beyond("10: goes, ROW", s, 0, s.rows - 1, (x, v) -> x.goes(0, v, 0));
            TWINS.beyond("10: goes, what", s, 0, 3, (x, v) -> x.goes(0, 0, v));
            TWINS.bad("10: all are wrong, counted once", s, x -> x.goes(-1, -1, -1));
            for (int i = 0; i < s.runners; i++) {
                for (int what = 0; what <= 3; what++) {
                    int who = i;
                    int w = what;
                    TWINS.asks("10: goes", s, x -> x.goes(who, s.rows - 1, w));
                }
            }
        }
    }

    private static void promise11Down() {
        CheeseHill x = lane(0, 9, G, 9, G, 9, T, 9, H);
        DUE.is("11: down", x.down(0, 0), 26 + 22 + 18 + 30);
        DUE.is("11: harm in all", x.down(0, 1), 5);
        DUE.is("11: the lane at the foot", x.down(0, 2), 0);
        CheeseHill one = lane(2, 9, T);
        DUE.is("11: one row", one.down(0, 0), 24);
        DUE.is("11: harm of one row", one.down(0, 1), 1);
        CheeseHill eight = lane(2, 9, T, 9, T, 9, T, 9, T, 9, T, 9, T, 9, T, 9, T);
        // 6, 9, 11, 12, 12, .. : harm 1, 1, then 3
        DUE.is("11: eight rows", eight.down(0, 0), 24 + 21 + 19 + 5 * 18);
        DUE.is("11: harm of eight rows", eight.down(0, 1), 2 + 6 * 3);
    }

    private static void promise11Refused() {
        for (State s : State.values()) {
            TWINS.beyond("11: down, RUNNER", s, 0, s.runners - 1, (x, v) -> x.down(v, 0));
            TWINS.beyond("11: down, what", s, 0, 2, (x, v) -> x.down(0, v));
            TWINS.bad("11: both are wrong, counted once", s, x -> x.down(9, 9));
            for (int i = 0; i < s.runners; i++) {
                for (int what = 0; what <= 2; what++) {
                    int who = i;
                    int w = what;
                    TWINS.asks("11: down", s, x -> x.down(who, w));
                }
            }
        }
    }

    // "BEST of a RUNNER by w (0 .. 20)": "TIME of all CELLS and w times HARM"
    private static void promise12HowMuch() {
        CheeseHill x = lane(0, 9, G, 9, G, 9, T, 9, H);
        for (int w = 0; w <= 20; w++) {
            DUE.is("12: one lane, w = " + w, x.best(0, w, -1), 96 + 5 * w);
            for (int r = 0; r < 4; r++) {
                DUE.is("12: one lane: straight on", x.best(0, w, r), 0);
            }
        }
        CheeseHill late = new CheeseHill();
        late.hill(1, 1);
        late.runner(0, 0, 99);
        DUE.is("12: START is no time of a cell", late.best(0, 20, -1), 29);
        DUE.is("12: the only row", late.best(0, 20, 0), 0);
        // bold, 2 all the way: 224; over the tussock 10 from row 3 on: 184 and 2 w
        CheeseHill y = new CheeseHill();
        y.hill(8, 2);
        for (int k = 0; k < 16; k++) {
            y.put(0, k / 2, k % 2, 0);
        }
        y.put(0, 0, 0, 4);
        y.put(0, 3, 1, 8);
        y.put(1, 3, 1, T);
        y.runner(4, 0, 7);
        y.line(0, 0, 2);
        DUE.is("12: w = 0", y.best(0, 0, -1), 184);
        DUE.is("12: w = 19", y.best(0, 19, -1), 222);
        DUE.is("12: w = 20", y.best(0, 20, -1), 224);
        int[] over = {0, 0, 2, 0, 0, 0, 0, 0};
        for (int r = 0; r < 8; r++) {
            DUE.is("12: w = 0, row " + r, y.best(0, 0, r), over[r]);
            DUE.is("12: w = 19, row " + r, y.best(0, 19, r), over[r]);
            DUE.is("12: w = 20, like: straight on, row " + r, y.best(0, 20, r), 0);
        }
    }

    /** A hill of so many lanes, flat but for cells of a row, a lane, a slope, a ground. */
    private static CheeseHill flat(int rows, int lanes, int[]... cells) {
        CheeseHill x = new CheeseHill();
        x.hill(rows, lanes);
        for (int k = 0; k < rows * lanes; k++) {
            x.put(0, k / lanes, k % lanes, 0);
        }
        for (int[] c : cells) {
            x.put(0, c[0], c[1], c[2]);
            x.put(1, c[0], c[1], c[3]);
        }
        return x;
    }

    private static void bestSteps(String told, CheeseHill x, int w, int due, int... steps) {
        DUE.is(told + ": how much", x.best(0, w, -1), due);
        for (int r = 0; r < steps.length; r++) {
            DUE.is(told + ": row " + r, x.best(0, w, r), steps[r]);
        }
    }

    // each row's s is that of the lane and pace to which the rows ahead of it have led
    private static void promise12ByLaneAndPace() {
        CheeseHill there = flat(3, 3, new int[] {1, 2, 9, G}, new int[] {2, 1, 9, G});
        there.runner(0, 1, 0);
        bestSteps("12: there and back", there, 0, 30 + 26 + 22, 2, 1, 0);
        CheeseHill across = flat(6, 6, new int[] {5, 5, 9, G});
        across.runner(0, 0, 0);
        bestSteps("12: all lanes across", across, 0, 5 * 30 + 26, 2, 2, 2, 2, 2, 0);
        CheeseHill back = flat(6, 6, new int[] {5, 0, 9, G});
        back.runner(0, 5, 0);
        bestSteps("12: and back", back, 0, 5 * 30 + 26, 1, 1, 1, 1, 1, 0);
        // bold, 4 into row 1: 9 on the tussock of slope 5, 10 on that of slope 6
        CheeseHill nine = flat(2, 2, new int[] {0, 0, 9, G}, new int[] {1, 1, 5, T});
        nine.runner(4, 0, 0);
        bestSteps("12: pace 9 on a tussock", nine, 20, 26 + 21, 2, 0);
        CheeseHill ten = flat(2, 2, new int[] {0, 0, 9, G}, new int[] {1, 1, 6, T});
        ten.runner(4, 0, 0);
        bestSteps("12: pace 10 on a tussock", ten, 20, 26 + 26, 0, 0);
        // 5 or 6 into the hollow of the only lane: 6 for row 1 is not worth its harm, from w = 1 on
        CheeseHill hollow = flat(4, 3, new int[] {0, 1, 9, G}, new int[] {1, 0, 2, G}, new int[] {1, 1, 4, G},
            new int[] {2, 0, 0, H}, new int[] {2, 1, 0, H}, new int[] {2, 2, 0, H});
        hollow.runner(0, 1, 0);
        bestSteps("12: 6 into a hollow, w = 0", hollow, 0, 26 + 24 + 30 + 30, 0, 0, 0, 0);
        bestSteps("12: 5 into a hollow, w = 1", hollow, 1, 26 + 25 + 30 + 30, 1, 0, 0, 0);
    }

    // "of like ones the first (by ROWS, 0 ahead of 1, 2)"
    private static void promise12LikeOnes() {
        CheeseHill same = new CheeseHill();
        same.hill(8, 6);
        for (int i = 0; i < 6; i++) {
            same.runner(i % 5, i, 0);
        }
        for (int k = 0; k < 48; k++) {
            DUE.is("12: all like: straight on", same.best(k / 8, 20, k % 8), 0);
        }
        bestOfThree(new int[] {2}, 0, 2, 0);
        bestOfThree(new int[] {0}, 0, 1, 0);
        bestOfThree(new int[] {0, 2}, 0, 1, 0);
        bestOfThree(new int[] {1}, 0, 0, 0);
        CheeseHill x = new CheeseHill();
        x.hill(2, 3);
        x.runner(0, 1, 0);
        x.put(0, 1, 0, 9);
        x.put(0, 1, 2, 8);
        DUE.is("12: like to the left and to the right", x.best(0, 0, 0), 1);
        DUE.is("12: how much", x.best(0, 0, -1), 29 + 25);
        x.put(0, 1, 0, 7);
        DUE.is("12: to the right alone", x.best(0, 0, 0), 2);
        x.put(0, 1, 1, 8);
        DUE.is("12: like straight on and to the right", x.best(0, 0, 0), 0);
        DUE.is("12: the last row's step leads to no cell", x.best(0, 0, 1), 0);
    }

    /** Three rows and lanes, flat but for a row 2 that is steep in some lanes; from lane 1. */
    private static void bestOfThree(int[] steep, int... steps) {
        CheeseHill x = new CheeseHill();
        x.hill(3, 3);
        for (int k = 0; k < 9; k++) {
            x.put(0, k / 3, k % 3, 0);
        }
        for (int l : steep) {
            x.put(0, 2, l, 9);
        }
        x.runner(0, 1, 0);
        DUE.is("12: how much to a steep last row", x.best(0, 0, -1), 86);
        for (int r = 0; r < 3; r++) {
            DUE.is("12: steep " + steep[0] + ", row " + r, x.best(0, 0, r), steps[r]);
        }
    }

    private static void promise12Refused() {
        for (State s : State.values()) {
            TWINS.beyond("12: best, RUNNER", s, 0, s.runners - 1, (x, v) -> x.best(v, 0, 0));
            TWINS.beyond("12: best, RUNNER, how much", s, 0, s.runners - 1, (x, v) -> x.best(v, 0, -1));
            TWINS.beyond("12: best, w", s, 0, 20, (x, v) -> x.best(0, v, 0));
            TWINS.beyond("12: best, w, how much", s, 0, 20, (x, v) -> x.best(0, v, -1));
            TWINS.beyond("12: best, ROW or NONE", s, -1, s.rows - 1, (x, v) -> x.best(0, 0, v));
            TWINS.bad("12: all are wrong, counted once", s, x -> x.best(-1, -1, -2));
            for (int i = 0; i < s.runners; i++) {
                for (int r = -1; r < s.rows; r++) {
                    int who = i;
                    int row = r;
                    TWINS.asks("12: best", s, x -> x.best(who, 20, row));
                }
            }
        }
    }

    // "the least of that, less than as he is; of like ones the least; none"
    private static void promise13Fall() {
        CheeseHill one = lane(0, 0, G);
        // as he is 30, as a tumbler 28 and w
        DUE.is("13: one row, w = 0", one.fall(0, 0), 0);
        DUE.is("13: one row, w = 1", one.fall(0, 1), 0);
        DUE.is("13: one row, w = 2: like, not less", one.fall(0, 2), -1);
        DUE.is("13: one row, w = 20", one.fall(0, 20), -1);
        CheeseHill two = lane(0, 0, G, 9, G);
        // as he is 56; from row 0 28 and 17 and 2 w; from row 1 30 and 19 and w
        int[] due = {0, 0, 0, 0, 0, 1, 1, -1, -1};
        for (int w = 0; w < due.length; w++) {
            DUE.is("13: two rows, w = " + w, two.fall(0, w), due[w]);
        }
        CheeseHill eight = lane(0, 9, G, 9, G, 0, G, 0, G, 0, G, 0, G, 0, G, 0, H);
        DUE.is("13: the last row alone", eight.fall(0, 20), 7);
        DUE.is("13: the first row", eight.fall(0, 0), 0);
        CheeseHill tumbler = lane(2, 9, G, 9, T, 9, H, 9, N);
        for (int w = 0; w <= 20; w++) {
            DUE.is("13: a tumbler is one already", tumbler.fall(0, w), -1);
        }
        // a crawler's 4, 4 as he is 52; from row 0 11, 20: 29 and 2 w; from row 1 4, 15: 41 and w
        CheeseHill crawler = lane(3, 9, G, 9, G);
        DUE.is("13: crawler, w = 11", crawler.fall(0, 11), 0);
        DUE.is("13: crawler, w = 12: both are 53", crawler.fall(0, 12), -1);
        DUE.is("13: his start and line stay", crawler.goes(0, 0, 2), 0);
        CheeseHill late = lane(0, 0, G);
        late.runner(0, 0, 99);
        DUE.is("13: a start counts on both sides", late.fall(1, 1), 0);
        DUE.is("13: and is not paid", late.fall(1, 2), -1);
    }

    private static void promise13Refused() {
        for (State s : State.values()) {
            TWINS.beyond("13: fall, RUNNER", s, 0, s.runners - 1, (x, v) -> x.fall(v, 0));
            TWINS.beyond("13: fall, w", s, 0, 20, (x, v) -> x.fall(0, v));
            TWINS.bad("13: both are wrong, counted once", s, x -> x.fall(-1, -1));
            for (int i = 0; i < s.runners; i++) {
                int who = i;
                TWINS.asks("13: fall, w = 0", s, x -> x.fall(who, 0));
                TWINS.asks("13: fall, w = 20", s, x -> x.fall(who, 20));
            }
        }
        TWINS.asks("13: none", () -> lane(2, 0, G), x -> x.fall(0, 0), -1);
    }

    // "of like ones the lesser number ahead"; "NONE: there are not so many. BAD: k below 0"
    private static void promise14Place() {
        for (State s : State.values()) {
            TWINS.refused("14: place(-1)", s, x -> x.place(-1), -2, Twins.BAD_ONE);
            TWINS.refused("14: place(-2)", s, x -> x.place(-2), -2, Twins.BAD_ONE);
            TWINS.refused("14: the least place", s, x -> x.place(Integer.MIN_VALUE), -2, Twins.BAD_ONE);
            TWINS.asks("14: one too many", s, x -> x.place(s.runners), -1);
            TWINS.asks("14: two too many", s, x -> x.place(s.runners + 1), -1);
            TWINS.asks("14: far too many", s, x -> x.place(Integer.MAX_VALUE), -1);
            for (int k = 0; k < s.runners; k++) {
                int place = k;
                TWINS.asks("14: place(" + k + ")", s, x -> x.place(place));
            }
        }
        CheeseHill like = new CheeseHill();
        CheeseHill turned = new CheeseHill();
        CheeseHill pairs = new CheeseHill();
        for (int i = 0; i < 6; i++) {
            like.runner(0, i % 5, 50);
            turned.runner(0, i % 5, 99 - i);
            pairs.runner(0, i % 5, i % 2);
        }
        int[] ofPairs = {0, 2, 4, 1, 3, 5};
        for (int k = 0; k < 6; k++) {
            DUE.is("14: like ones", like.place(k), k);
            DUE.is("14: the last one's start is first", turned.place(k), 5 - k);
            DUE.is("14: like ones in two lots", pairs.place(k), ofPairs[k]);
        }
        // The greatest hill: eight rows, six runners.
        CheeseHill great = flat(8, 6, new int[] {7, 2, 9, G}, new int[] {7, 5, 9, G}, new int[] {7, 1, 9, G},
            new int[] {7, 0, 5, G}, new int[] {7, 4, 5, G}, new int[] {7, 3, 5, G});
        for (int i = 0; i < 6; i++) {
            great.runner(0, i, 0);
        }
        // 236 in lanes 2, 5, 1 and 238 in 0, 4, 3
        int[] places = {1, 2, 5, 0, 3, 4};
        for (int k = 0; k < 6; k++) {
            DUE.is("14: eight rows, six runners", great.place(k), places[k]);
            DUE.is("14: his down", great.down(places[k], 0), k < 3 ? 236 : 238);
        }
        DUE.is("21: eight rows, six runners", great.catchers(), 18);
        // 30 less pace: by DOWN, not by START
        CheeseHill x = lane(0, 9, G);
        x.runner(2, 0, 6);
        x.runner(2, 0, 7);
        x.runner(2, 0, 8);
        int[] due = {1, 0, 2, 3, -1};
        for (int k = 0; k < due.length; k++) {
            DUE.is("14: by DOWN", x.place(k), due[k]);
        }
    }

    private static int pairs(int kind, int... starts) {
        CheeseHill x = new CheeseHill();
        x.hill(1, 1);
        for (int start : starts) {
            x.runner(kind, 0, start);
        }
        return x.clashes();
    }

    // "in one CELL at one time (times that but touch do not)"
    private static void promise15Touch() {
        DUE.is("15: 28 behind", pairs(0, 0, 28), 1);
        DUE.is("15: 29 behind: they but touch", pairs(0, 0, 29), 0);
        DUE.is("15: 30 behind", pairs(0, 0, 30), 0);
        DUE.is("15: 28 ahead", pairs(0, 28, 0), 1);
        DUE.is("15: 29 ahead: they but touch", pairs(0, 29, 0), 0);
        DUE.is("15: 30 ahead", pairs(0, 30, 0), 0);
        DUE.is("15: at once", pairs(0, 99, 99), 1);
        DUE.is("15: nobody", pairs(0), 0);
        DUE.is("15: one", pairs(0, 5), 0);
        DUE.is("15: six at once", pairs(0, 7, 7, 7, 7, 7, 7), 15);
        DUE.is("15: a row of touches", pairs(0, 0, 29, 58, 87), 0);
        DUE.is("15: each with the next one", pairs(0, 0, 28, 56, 84), 3);
        DUE.is("15: the third and the fourth", pairs(0, 0, 29, 58, 86), 1);
        CheeseHill within = lane(0, 9, N);
        within.runner(2, 0, 3);
        DUE.is("15: one is wholly within the other's time", within.clashes(), 1);
    }

    private static void promise15OneCell() {
        CheeseHill x = new CheeseHill();
        x.hill(2, 2);
        x.runner(0, 0, 0);
        x.runner(0, 1, 28);
        x.line(1, 0, 1);
        DUE.is("15: the last row, they but touch", x.clashes(), 0);
        x.hill(2, 2);
        x.runner(0, 0, 0);
        x.runner(0, 1, 27);
        x.line(1, 0, 1);
        DUE.is("15: the last row alone", x.clashes(), 1);
        x.line(1, 0, 0);
        DUE.is("15: beside each other", x.clashes(), 0);
        x.line(1, 1, 1);
        DUE.is("15: the foot is no cell", x.clashes(), 0);
        x.hill(3, 1);
        x.runner(0, 0, 0);
        x.runner(0, 0, 29);
        DUE.is("15: one lane, a row apart all the way, times but touch", x.clashes(), 0);
        x.hill(3, 1);
        x.put(1, 1, 0, N);
        x.runner(0, 0, 0);
        x.runner(0, 0, 29);
        DUE.is("15: in the middle row, by nettles", x.clashes(), 1);
        for (State s : State.values()) {
            TWINS.asks("15: clashes", s, CheeseHill::clashes);
        }
    }

    private static int apartOf(int lanes, int... from) {
        CheeseHill x = new CheeseHill();
        x.hill(1, lanes);
        for (int l : from) {
            x.runner(0, l, 99);
        }
        return x.apart();
    }

    // "the least d (0 .. 99) by which, RUNNER i's START were i times d, there are no CLASHES; none"
    private static void promise16LeastApart() {
        DUE.is("16: nobody", apartOf(1), 0);
        DUE.is("16: one", apartOf(1, 0), 0);
        DUE.is("16: six in six lanes", apartOf(6, 0, 1, 2, 3, 4, 5), 0);
        DUE.is("16: two", apartOf(1, 0, 0), 29);
        DUE.is("16: six", apartOf(1, 0, 0, 0, 0, 0, 0), 29);
        DUE.is("16: 0 and 2: twice d", apartOf(2, 0, 1, 0), 15);
        DUE.is("16: 0 and 5: five times d", apartOf(6, 0, 1, 2, 3, 4, 0), 6);
        DUE.is("16: 1 and 4: three times d", apartOf(6, 0, 1, 2, 3, 1, 5), 10);
        DUE.is("16: 0 and 5, 3 and 4", apartOf(6, 0, 1, 2, 3, 3, 0), 29);
        for (int start : new int[] {0, 50, 99}) {
            CheeseHill x = new CheeseHill();
            x.hill(1, 1);
            x.runner(0, 0, start);
            x.runner(0, 0, 99 - start);
            DUE.is("16: whatever STARTS they have now", x.apart(), 29);
        }
        // the shared cell: 34 .. 62 and 19 .. 33; 2 later they would meet
        CheeseHill x = new CheeseHill();
        x.hill(2, 2);
        x.put(1, 0, 0, N);
        x.put(0, 0, 1, 9);
        x.runner(0, 0, 50);
        x.runner(2, 1, 50);
        x.line(1, 0, 1);
        DUE.is("16: 0 will do, though more would not", x.apart(), 0);
        x.put(0, 0, 1, 7);
        // 21 .. 37 now: from 41 on
        DUE.is("16: and now it will not", x.apart(), 41);
    }

    /** Upright ahead, a tumbler behind, in nettles. */
    private static CheeseHill nettles(int slope, int lastSlope, int many) {
        CheeseHill x = new CheeseHill();
        x.hill(6, 1);
        for (int r = 0; r < 6; r++) {
            x.put(0, r, 0, r == 5 ? lastSlope : slope);
            x.put(1, r, 0, r < many ? N : G);
        }
        x.runner(0, 0, 0);
        x.runner(2, 0, 0);
        return x;
    }

    private static void promise16Edges() {
        // 188, 189 against 90 as he comes into the last row; 205 against 105
        TWINS.asks("16: 98", () -> nettles(2, 4, 6), CheeseHill::apart, 98);
        TWINS.asks("16: 99", () -> nettles(2, 2, 6), CheeseHill::apart, 99);
        TWINS.asks("16: 100 is too much: none", () -> nettles(1, 1, 5), CheeseHill::apart, -1);
        for (State s : State.values()) {
            TWINS.asks("16: apart", s, CheeseHill::apart);
        }
    }

    // "what START one must have had (below 0 too)"; "BAD: -1000 (time 0 .. 999)"
    private static void promise17Began() {
        CheeseHill x = lane(0, 0, N, 0, N, 0, N, 0, N, 0, N, 0, N, 0, N, 0, N);
        x.runner(0, 0, 99);
        int[][] due = {{0, -280}, {1, -279}, {279, -1}, {280, 0}, {281, 1}, {998, 718}, {999, 719}};
        for (int[] d : due) {
            DUE.is("17: began at " + d[0], x.began(0, d[0]), d[1]);
            DUE.is("17: whatever START he has now", x.began(1, d[0]), d[1]);
        }
        DUE.is("17: his DOWN gives his START", x.began(1, x.down(1, 0)), 99);
        for (State s : State.values()) {
            TWINS.beyond("17: began, RUNNER", s, 0, s.runners - 1, -1000, (y, v) -> y.began(v, 0));
            TWINS.beyond("17: began, time", s, 0, 999, -1000, (y, v) -> y.began(0, v));
            TWINS.refused("17: both are wrong, counted once", s, y -> y.began(-1, -1), -1000, Twins.BAD_ONE);
            for (int i = 0; i < s.runners; i++) {
                int who = i;
                TWINS.asks("17: began, time 0", s, y -> y.began(who, 0));
                TWINS.asks("17: began, time 999", s, y -> y.began(who, 999));
            }
        }
    }
}
