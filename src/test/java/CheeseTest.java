/** Promises 18 to 22: the cheese, feet, catchers, the bale. */
public final class CheeseTest {
    private static final Due DUE = new Due();

    public static void main(String[] args) {
        promise18Cheese();
        promise19Fence();
        promise20Feet();
        promise21Catchers();
        promise22Bale();
        DUE.end("CheeseTest");
    }

    private static void chance(CheeseHill x, int from, int lane, long above, long below) {
        String call = "18: cheese(" + from + ", " + lane + ")";
        DUE.is(call, x.cheese(from, lane), 1);
        DUE.is(call + ": above", x.part(0), above);
        DUE.is(call + ": below", x.part(1), below);
    }

    /** From lane 1 to the feet 0, 1, 2 by a fourth, a half, a fourth. */
    private static CheeseHill tussocks() {
        CheeseHill x = new CheeseHill();
        x.hill(2, 3);
        x.put(1, 0, 1, 1);
        x.put(1, 1, 0, 1);
        x.put(1, 1, 2, 1);
        return x;
    }

    private static void promise18Cheese() {
        CheeseHill x = tussocks();
        chance(x, 1, 0, 1, 4);
        chance(x, 1, 1, 1, 2);
        chance(x, 1, 2, 1, 4);
        chance(x, 0, 0, 1, 2);
        chance(x, 0, 1, 1, 2);
        chance(x, 0, 2, 0, 1);
        CheeseHill y = new CheeseHill();
        y.put(1, 0, 0, 2);
        y.put(1, 1, 0, 3);
        chance(y, 0, 0, 1, 1);
        chance(y, 0, 1, 0, 1);
        y.hill(8, 1);
        for (int r = 0; r < 8; r++) {
            y.put(1, r, 0, 1);
        }
        chance(y, 0, 0, 1, 1);
        y.hill(8, 2);
        for (int r = 0; r < 8; r++) {
            y.put(1, r, 0, 1);
        }
        // in lane 1 it stays; 8 times it stays in lane 0 by a half
        chance(y, 0, 0, 1, 256);
        chance(y, 0, 1, 255, 256);
        int[][] wrong = {{2, 0}, {-1, 0}, {0, 2}, {0, -1}};
        for (int[] w : wrong) {
            DUE.is("18: cheese of a wrong number", y.cheese(w[0], w[1]), CheeseHill.BAD);
        }
        DUE.is("18: the fraction stays", y.part(0), 255);
        DUE.is("18: refused", y.status(0), wrong.length);
    }

    private static void promise19Fence() {
        CheeseHill x = tussocks();
        int[][] due = {{1, 0}, {25, 0}, {26, 11}, {50, 11}, {51, 1}, {75, 1}, {76, 2}, {100, 2}};
        for (int[] d : due) {
            DUE.is("19: fence(1, " + d[0] + ")", x.fence(1, d[0]), d[1]);
        }
        DUE.is("19: fence(0, 50)", x.fence(0, 50), 0);
        DUE.is("19: fence(0, 51)", x.fence(0, 51), 1);
        DUE.is("19: fence(2, 50)", x.fence(2, 50), 11);
        DUE.is("19: fence(2, 100)", x.fence(2, 100), 12);
        DUE.is("19: the fraction stays", x.part(1), 1);
        CheeseHill y = new CheeseHill();
        DUE.is("19: no tussock", y.fence(4, 100), 44);
        y.hill(8, 2);
        for (int r = 0; r < 8; r++) {
            y.put(1, r, 0, 1);
        }
        DUE.is("19: 255 of 256 are 99 of 100", y.fence(0, 99), 11);
        DUE.is("19: but not 100 of 100", y.fence(0, 100), 1);
        int[][] wrong = {{2, 1}, {-1, 1}, {0, 0}, {0, 101}, {0, -1}};
        for (int[] w : wrong) {
            DUE.is("19: fence of a wrong number", y.fence(w[0], w[1]), CheeseHill.BAD);
        }
        DUE.is("19: refused", y.status(0), wrong.length);
    }

    private static void promise20Feet() {
        CheeseHill x = new CheeseHill();
        x.hill(2, 1);
        x.put(0, 0, 0, 0);
        x.put(0, 1, 0, 0);
        x.runner(0, 0, 0);
        DUE.is("20: feet(0)", x.feet(0), 1);
        DUE.is("20: pace 0, above", x.part(0), 1);
        DUE.is("20: pace 0, below", x.part(1), 1);
        x.put(0, 0, 0, 8);
        x.put(0, 1, 0, 8);
        x.feet(0);
        // paces 4 and 8: 36 of 40 times 32 of 40
        DUE.is("20: paces 4, 8, above", x.part(0), 18);
        DUE.is("20: paces 4, 8, below", x.part(1), 25);
        x.hill(8, 1);
        x.runner(3, 0, 0);
        for (int r = 0; r < 8; r++) {
            x.put(0, r, 0, r == 0 ? 2 : 0);
        }
        x.feet(0);
        // 39 by 40, eight times
        DUE.is("20: the eighth power, above", x.part(0), 5352009260481L);
        DUE.is("20: the eighth power, below", x.part(1), 6553600000000L);
        DUE.is("20: feet(1)", x.feet(1), CheeseHill.BAD);
        DUE.is("20: feet(-1)", x.feet(-1), CheeseHill.BAD);
        DUE.is("20: the fraction stays", x.part(1), 6553600000000L);
        DUE.is("20: refused", x.status(0), 2);
    }

    private static void promise21Catchers() {
        CheeseHill x = new CheeseHill();
        DUE.is("21: nobody", x.catchers(), 0);
        int[][] lanes = {{0}, {2}, {5}, {0, 1}, {0, 2}, {0, 3, 5}, {0, 1, 2, 3, 4, 5}, {1, 4}, {0, 5}, {2, 3}};
        int[] bits = {1, 2, 16, 1, 2, 17, 18, 9, 17, 4};
        for (int k = 0; k < lanes.length; k++) {
            x.hill(1, 6);
            for (int l : lanes[k]) {
                x.runner(0, l, 0);
            }
            DUE.is("21: catchers, " + k, x.catchers(), bits[k]);
        }
        x.hill(1, 1);
        x.runner(0, 0, 0);
        DUE.is("21: one lane", x.catchers(), 1);
        x.hill(1, 6);
        x.runner(0, 2, 0);
        x.line(0, 0, 2);
        DUE.is("21: the foot counts, not the last row", x.catchers(), 4);
    }

    private static void promise22Bale() {
        CheeseHill x = new CheeseHill();
        DUE.is("22: nobody", x.bale(), CheeseHill.NONE);
        x.hill(3, 2);
        x.put(0, 0, 1, 0);
        x.put(0, 1, 1, 9);
        x.put(0, 2, 1, 9);
        x.put(1, 2, 1, 1);
        x.runner(4, 1, 0);
        // paces 0, 9, 13 on the tussock; from a hollow in row 1 it is 4
        DUE.is("22: harm now", x.down(0, 1), 2);
        DUE.is("22: bale", x.bale(), 11);
        DUE.is("22: the ground stays", x.at(1, 1, 1), 0);
        DUE.is("22: the tussock stays", x.at(1, 2, 1), 1);
        x.put(0, 0, 1, 9);
        // 4, 13, 17; a hollow in row 0 leaves 0, 9, 13; in row 1 4, 0, 4; in row 2 harm 3
        DUE.is("22: least, not first", x.bale(), 11);
        x.put(0, 2, 1, 0);
        // 4, 13, 13; a hollow in row 0 leaves 0, 9, 9: like row 1
        DUE.is("22: of like ones the first", x.bale(), 1);
        x.runner(2, 0, 0);
        DUE.is("22: a tumbler's harm is there anyway", x.bale(), 1);
        x.hill(2, 2);
        x.put(0, 0, 0, 9);
        x.put(0, 1, 0, 9);
        x.put(1, 1, 0, 1);
        x.runner(4, 0, 0);
        DUE.is("22: lane 0", x.bale(), 0);
        x.hill(2, 2);
        x.runner(2, 0, 0);
        DUE.is("22: none is less", x.bale(), CheeseHill.NONE);
        DUE.is("22: none is not refused", x.status(0) + x.status(1) + x.status(2), 0);
    }
}
