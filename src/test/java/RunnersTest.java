/** Promises 10 to 17: runners on their lines. */
public final class RunnersTest {
    private static final Due DUE = new Due();

    public static void main(String[] args) {
        promise10Kinds();
        promise10Edges();
        promise10Refused();
        promise11Down();
        promise12Best();
        promise13Fall();
        promise14Place();
        promise15Clashes();
        promise16Apart();
        promise17Began();
        DUE.end("RunnersTest");
    }

    /** A lane of grass, tussock, nettles, hollow, steep all the way. */
    private static CheeseHill steepLane() {
        CheeseHill x = new CheeseHill();
        x.hill(4, 1);
        for (int r = 0; r < 4; r++) {
            x.put(0, r, 0, 9);
            x.put(1, r, 0, r);
        }
        return x;
    }

    private static void promise10Kinds() {
        CheeseHill x = steepLane();
        int[][] paces = {{4, 8, 12, 0}, {9, 9, 18, 0}, {11, 12, 20, 20}, {4, 4, 4, 0}, {4, 13, 17, 0}};
        int[][] times = {{26, 22, 23, 30}, {21, 21, 17, 30}, {19, 18, 10, 10}, {26, 26, 31, 30}, {26, 17, 18, 30}};
        int[][] harms = {{0, 0, 0, 3}, {0, 0, 0, 3}, {1, 3, 1, 1}, {0, 0, 0, 0}, {0, 2, 0, 3}};
        for (int k = 0; k < 5; k++) {
            x.runner(k, 0, 10 * k);
            int time = 10 * k;
            for (int r = 0; r < 4; r++) {
                String who = "10: kind " + k + " in row " + r + ": ";
                DUE.is(who + "lane", x.goes(k, r, 0), 0);
                DUE.is(who + "pace", x.goes(k, r, 1), paces[k][r]);
                DUE.is(who + "when", x.goes(k, r, 2), time);
                DUE.is(who + "harm", x.goes(k, r, 3), harms[k][r]);
                time += times[k][r];
            }
            DUE.is("10: down of kind " + k, x.down(k, 0), time);
        }
    }

    private static void promise10Edges() {
        CheeseHill x = new CheeseHill();
        x.hill(3, 3);
        x.runner(1, 0, 0);
        x.line(0, 0, 1);
        x.line(0, 1, 2);
        DUE.is("10: no lane to the left", x.goes(0, 1, 0), 0);
        DUE.is("10: to the right", x.goes(0, 2, 0), 1);
        x.runner(1, 2, 0);
        x.line(1, 0, 2);
        x.line(1, 1, 1);
        DUE.is("10: no lane to the right", x.goes(1, 1, 0), 2);
        DUE.is("10: to the left", x.goes(1, 2, 0), 1);
        // slider: 5, 10 on the tussock (harm), 10 ahead of the hollow (harm)
        x.put(0, 0, 0, 5);
        x.put(0, 1, 0, 5);
        x.line(0, 1, 0);
        DUE.is("10: grass of pace 10", x.goes(0, 1, 3), 0);
        x.put(1, 2, 0, 3);
        DUE.is("10: hollow from pace 10", x.goes(0, 2, 3), 3);
        x.put(0, 1, 0, 1);
        DUE.is("10: hollow from pace 6", x.goes(0, 2, 3), 3);
        x.put(0, 1, 0, 0);
        DUE.is("10: hollow from pace 5", x.goes(0, 2, 3), 0);
        // bold in an odd row: 4 and 6 on a tussock are 10, 4 and 5 are 9
        CheeseHill y = new CheeseHill();
        y.hill(2, 1);
        y.put(0, 0, 0, 9);
        y.put(1, 1, 0, 1);
        y.put(0, 1, 0, 6);
        y.runner(4, 0, 0);
        DUE.is("10: tussock at pace 10", y.goes(0, 1, 3), 2);
        y.put(0, 1, 0, 5);
        DUE.is("10: tussock at pace 9", y.goes(0, 1, 3), 0);
        // a slider is halved and cut behind the sum
        y.runner(1, 0, 0);
        y.put(0, 0, 0, 4);
        DUE.is("10: 4 and 5, halved and cut", y.goes(1, 1, 1), 4);
    }

    private static void promise10Refused() {
        CheeseHill x = new CheeseHill();
        x.runner(0, 0, 0);
        int[][] wrong = {{1, 0, 0}, {-1, 0, 0}, {0, 6, 0}, {0, -1, 0}, {0, 0, 4}, {0, 0, -1}};
        for (int[] w : wrong) {
            DUE.is("10: goes of a wrong number", x.goes(w[0], w[1], w[2]), CheeseHill.BAD);
        }
        DUE.is("10: refused", x.status(0), wrong.length);
    }

    private static void promise11Down() {
        CheeseHill x = steepLane();
        x.runner(0, 0, 7);
        DUE.is("11: down", x.down(0, 0), 108);
        DUE.is("11: harm", x.down(0, 1), 3);
        DUE.is("11: lane", x.down(0, 2), 0);
        CheeseHill y = new CheeseHill();
        y.runner(2, 3, 0);
        y.line(0, 5, 2);
        DUE.is("11: harm of a tumbler", y.down(0, 1), 6);
        DUE.is("11: the last row leads to the foot", y.down(0, 2), 4);
        y.line(0, 4, 2);
        DUE.is("11: and no further than the last lane", y.down(0, 2), 4);
        int[][] wrong = {{1, 0}, {-1, 0}, {0, 3}, {0, -1}};
        for (int[] w : wrong) {
            DUE.is("11: down of a wrong number", y.down(w[0], w[1]), CheeseHill.BAD);
        }
        DUE.is("11: refused", y.status(0), wrong.length);
    }

    private static void promise12Best() {
        CheeseHill x = new CheeseHill();
        x.hill(2, 2);
        x.put(0, 0, 0, 9);
        x.put(0, 1, 0, 1);
        x.put(0, 1, 1, 9);
        x.put(1, 1, 1, 1);
        x.runner(4, 0, 50);
        x.line(0, 0, 1);
        // straight on: 26 and 25; to the right: 26 and 17, with harm 2
        DUE.is("12: w = 0", x.best(0, 0, CheeseHill.NONE), 43);
        DUE.is("12: w = 0, row 0", x.best(0, 0, 0), 2);
        DUE.is("12: w = 0, row 1", x.best(0, 0, 1), 0);
        DUE.is("12: w = 3", x.best(0, 3, CheeseHill.NONE), 49);
        DUE.is("12: w = 3, row 0", x.best(0, 3, 0), 2);
        DUE.is("12: w = 4, like", x.best(0, 4, CheeseHill.NONE), 51);
        DUE.is("12: w = 4, the first of like ones", x.best(0, 4, 0), 0);
        DUE.is("12: w = 20", x.best(0, 20, CheeseHill.NONE), 51);
        DUE.is("12: w = 20, row 0", x.best(0, 20, 0), 0);
        DUE.is("12: his line stays", x.line(0, 0, 1), 1);
        // left and right alike, straight on worse
        CheeseHill y = new CheeseHill();
        y.hill(2, 3);
        y.put(0, 1, 1, 0);
        y.runner(0, 1, 0);
        DUE.is("12: left ahead of right", y.best(0, 0, 0), 1);
        y.put(0, 1, 0, 1);
        DUE.is("12: right alone", y.best(0, 0, 0), 2);
        int[][] wrong = {{1, 0, 0}, {-1, 0, 0}, {0, 21, 0}, {0, -1, 0}, {0, 0, 2}, {0, 0, -2}};
        for (int[] w : wrong) {
            DUE.is("12: best of a wrong number", y.best(w[0], w[1], w[2]), CheeseHill.BAD);
        }
        DUE.is("12: refused", y.status(0), wrong.length);
    }

    private static void promise13Fall() {
        CheeseHill x = steepLane();
        x.runner(0, 0, 5);
        DUE.is("13: w = 0", x.fall(0, 0), 0);
        DUE.is("13: w = 20", x.fall(0, 20), 3);
        x.runner(2, 0, 0);
        DUE.is("13: a tumbler", x.fall(1, 0), CheeseHill.NONE);
        CheeseHill y = new CheeseHill();
        y.hill(2, 1);
        y.put(0, 0, 0, 0);
        y.put(0, 1, 0, 9);
        y.runner(0, 0, 0);
        // as he is 56; from row 0 45 and 2 w, from row 1 49 and w
        DUE.is("13: w = 3", y.fall(0, 3), 0);
        DUE.is("13: w = 4, like: the least", y.fall(0, 4), 0);
        DUE.is("13: w = 5", y.fall(0, 5), 1);
        DUE.is("13: w = 6", y.fall(0, 6), 1);
        DUE.is("13: w = 7, not less", y.fall(0, 7), CheeseHill.NONE);
        DUE.is("13: none is not refused", y.status(0) + y.status(1) + y.status(2), 0);
        int[][] wrong = {{1, 0}, {-1, 0}, {0, 21}, {0, -1}};
        for (int[] w : wrong) {
            DUE.is("13: fall of a wrong number", y.fall(w[0], w[1]), CheeseHill.BAD);
        }
        DUE.is("13: refused", y.status(0), wrong.length);
    }

    private static void promise14Place() {
        CheeseHill x = new CheeseHill();
        x.hill(1, 1);
        DUE.is("14: nobody", x.place(0), CheeseHill.NONE);
        x.runner(0, 0, 20);
        x.runner(0, 0, 4);
        x.runner(2, 0, 0);
        x.runner(2, 0, 8);
        // down: 49, 33, 25, 33
        int[] order = {2, 1, 3, 0, -1, -1};
        for (int k = 0; k < order.length; k++) {
            DUE.is("14: place(" + k + ")", x.place(k), order[k]);
        }
        x.hill(1, 1);
        x.runner(0, 0, 1);
        x.runner(0, 0, 2);
        x.runner(0, 0, 0);
        DUE.is("14: number 0 is ahead of number 1", x.place(2), 1);
        DUE.is("14: far beyond", x.place(Integer.MAX_VALUE), CheeseHill.NONE);
        DUE.is("14: none is not refused", x.status(0), 0);
        DUE.is("14: place(-1)", x.place(-1), CheeseHill.BAD);
        DUE.is("14: place(least)", x.place(Integer.MIN_VALUE), CheeseHill.BAD);
        DUE.is("14: refused", x.status(0), 2);
    }

    private static void promise15Clashes() {
        CheeseHill x = new CheeseHill();
        x.hill(1, 2);
        DUE.is("15: nobody", x.clashes(), 0);
        x.runner(0, 0, 0);
        x.runner(0, 0, 29);
        DUE.is("15: they but touch", x.clashes(), 0);
        x.runner(0, 0, 28);
        DUE.is("15: one tenth with each of both", x.clashes(), 2);
        x.runner(0, 1, 0);
        DUE.is("15: another lane", x.clashes(), 2);
        x.runner(0, 1, 99);
        x.runner(0, 1, 70);
        DUE.is("15: the lesser number is the later one, and they but touch", x.clashes(), 2);
        // two in each row, but once in a pair
        CheeseHill y = new CheeseHill();
        y.runner(1, 2, 0);
        y.runner(1, 2, 0);
        DUE.is("15: a pair counts once", y.clashes(), 1);
        y.line(0, 0, 1);
        DUE.is("15: together in row 0 alone", y.clashes(), 1);
        y.hill(2, 2);
        y.runner(0, 0, 0);
        y.runner(0, 1, 0);
        y.line(0, 0, 2);
        y.line(1, 0, 1);
        DUE.is("15: they change lanes past each other", y.clashes(), 0);
    }

    private static void promise16Apart() {
        CheeseHill x = new CheeseHill();
        DUE.is("16: nobody", x.apart(), 0);
        x.hill(1, 1);
        x.runner(0, 0, 99);
        DUE.is("16: one alone", x.apart(), 0);
        x.runner(0, 0, 99);
        DUE.is("16: two", x.apart(), 29);
        x.runner(2, 0, 0);
        DUE.is("16: three", x.apart(), 29);
        DUE.is("16: starts stay", x.goes(0, 0, 2), 99);
        x.hill(1, 2);
        x.runner(0, 1, 0);
        x.runner(0, 0, 0);
        x.runner(0, 0, 0);
        DUE.is("16: the second and the third", x.apart(), 29);
        // nettles all the way, six rows: 189 against 90 as he comes into the last one
        DUE.is("16: 99", apartInNettles(2, 6), 99);
        // 205 against 105: 100 were needed
        DUE.is("16: 100 is too much", apartInNettles(1, 5), CheeseHill.NONE);
        // one of 280 tenths, behind him one of 168: whoever starts 99 behind runs into him
        x.hill(8, 1);
        for (int r = 0; r < 8; r++) {
            x.put(0, r, 0, 0);
            x.put(1, r, 0, 2);
        }
        x.runner(0, 0, 0);
        x.runner(2, 0, 0);
        DUE.is("16: the slow one's time", x.down(0, 0), 280);
        DUE.is("16: the fast one's time", x.down(1, 0), 168);
        DUE.is("16: none", x.apart(), CheeseHill.NONE);
        DUE.is("16: none is not refused", x.status(0) + x.status(1) + x.status(2), 0);
    }

    private static int apartInNettles(int slope, int nettles) {
        CheeseHill x = new CheeseHill();
        x.hill(6, 1);
        for (int r = 0; r < 6; r++) {
            x.put(0, r, 0, slope);
            x.put(1, r, 0, r < nettles ? 2 : 0);
        }
        x.runner(0, 0, 0);
        x.runner(2, 0, 0);
        return x.apart();
    }

    private static void promise17Began() {
        CheeseHill x = new CheeseHill();
        x.hill(1, 1);
        x.runner(0, 0, 50);
        DUE.is("17: began(0, 29)", x.began(0, 29), 0);
        DUE.is("17: began(0, 0)", x.began(0, 0), -29);
        DUE.is("17: began(0, 999)", x.began(0, 999), 970);
        int[][] wrong = {{1, 0}, {-1, 0}, {0, 1000}, {0, -1}};
        for (int[] w : wrong) {
            DUE.is("17: began of a wrong number", x.began(w[0], w[1]), -1000);
        }
        DUE.is("17: refused as BAD", x.status(0), wrong.length);
    }
}
