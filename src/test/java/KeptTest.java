/** Promises 29 to 34: what there is. */
public final class KeptTest {
    private static final Due DUE = new Due();

    public static void main(String[] args) {
        promise29Part();
        promise30Image();
        promise31From();
        promise31WhatImagesDoNotKeep();
        promise32Status();
        promise33Count();
        promise34Digest();
        DUE.end("KeptTest");
    }

    private static void promise29Part() {
        CheeseHill x = new CheeseHill();
        DUE.is("29: above at first", x.part(0), 0);
        DUE.is("29: below at first", x.part(1), 1);
        x.cheese(2, 2);
        DUE.is("29: above 1", x.part(0), 1);
        DUE.is("29: below 1", x.part(1), 1);
        x.cheese(2, 1);
        DUE.is("29: above 0", x.part(0), 0);
        DUE.is("29: below 1 in lowest terms", x.part(1), 1);
        DUE.is("29: part(2)", x.part(2), CheeseHill.BAD);
        DUE.is("29: part(-1)", x.part(-1), CheeseHill.BAD);
        DUE.is("29: refused", x.status(0), 2);
    }

    private static void promise30Image() {
        CheeseHill x = new CheeseHill();
        DUE.is("30: image(2)", x.image(2), CheeseHill.BAD);
        DUE.is("30: image(-1)", x.image(-1), CheeseHill.BAD);
        DUE.is("30: refused", x.status(0), 2);
        x.put(0, 0, 0, 1);
        DUE.is("30: image(0)", x.image(0), 1);
        x.put(0, 0, 0, 2);
        DUE.is("30: image(1)", x.image(1), 1);
        x.put(0, 0, 0, 5);
        x.from(0);
        DUE.is("30: what 0 kept", x.at(0, 0, 0), 1);
        x.put(0, 0, 0, 6);
        x.from(1);
        DUE.is("30: what 1 kept", x.at(0, 0, 0), 2);
        x.from(0);
        DUE.is("30: 0 keeps on", x.at(0, 0, 0), 1);
        x.put(0, 0, 0, 7);
        x.image(0);
        x.put(0, 0, 0, 8);
        x.from(0);
        DUE.is("30: 0 kept anew", x.at(0, 0, 0), 7);
    }

    private static void promise31From() {
        CheeseHill x = new CheeseHill();
        DUE.is("31: none was kept", x.from(1), CheeseHill.NO);
        DUE.is("31: from(2)", x.from(2), CheeseHill.BAD);
        DUE.is("31: from(-1)", x.from(-1), CheeseHill.BAD);
        DUE.is("31: refused as NO", x.status(1), 1);
        DUE.is("31: refused as BAD", x.status(0), 2);
        x.hill(4, 3);
        x.runner(1, 2, 9);
        x.runner(1, 2, 8);
        x.line(1, 3, 1);
        x.put(1, 3, 2, 3);
        x.hurt(1);
        x.hurt(3);
        for (int k = 0; k < 3; k++) {
            x.run();
        }
        long was = x.digest();
        x.image(1);
        x.undo();
        x.undo();
        x.heal();
        x.line(1, 3, 2);
        x.put(1, 3, 2, 0);
        x.runner(0, 0, 0);
        x.hill(8, 6);
        for (int i = 0; i < 6; i++) {
            x.runner(4, 5, 0);
            x.line(i, 3, 2);
            x.hurt(2);
            x.run();
        }
        DUE.is("31: from(0)", x.from(0), CheeseHill.NO);
        DUE.is("31: from(1)", x.from(1), 1);
        DUE.is("31: all as kept", x.digest(), was);
        DUE.is("31: to undo", x.count(4), 3);
        for (int k = 5; k >= 3; k--) {
            x.undo();
            DUE.is("31: undone from the image", x.at(0, 0, 2), k);
        }
        DUE.is("31: the image keeps what may be undone", x.from(1), 1);
        DUE.is("31: to undo again", x.count(4), 3);
        DUE.is("31: slope again", x.at(0, 0, 2), 6);
    }

    private static void promise31WhatImagesDoNotKeep() {
        CheeseHill x = new CheeseHill();
        x.hill(1, 1);
        x.image(1);
        DUE.is("31: an image of one row", x.from(1), 1);
        x.hill(8, 6);
        for (int i = 0; i < 6; i++) {
            x.runner(0, i, 0);
        }
        x.line(5, 7, 2);
        x.image(1);
        x.line(5, 7, 1);
        x.from(1);
        DUE.is("31: the last runner's last row", x.line(5, 7, 0), 2);
        x = new CheeseHill();
        x.image(0);
        x.type(7, 5);
        x.cheese(0, 0);
        x.image(5);
        x.undo();
        x.from(0);
        DUE.is("31: the text is not of the image", x.count(5), 5);
        DUE.is("31: the fraction is not of the image", x.part(0), 1);
        DUE.is("31: BAD is not of the image", x.status(0), 1);
        DUE.is("31: NO is not of the image", x.status(1), 1);
        DUE.is("31: images are not of the image", x.from(1), CheeseHill.NO);
    }

    private static void promise32Status() {
        CheeseHill x = new CheeseHill();
        for (int k = 0; k <= 2; k++) {
            DUE.is("32: none", x.status(k), 0);
        }
        DUE.is("32: status(3)", x.status(3), -1);
        DUE.is("32: status(-1)", x.status(-1), -1);
        DUE.is("32: these count as BAD", x.status(0), 2);
        x.began(0, 0);
        x.waits(0, 0);
        x.count(6);
        x.part(2);
        DUE.is("32: other answers count as BAD", x.status(0), 6);
        x.hurt(3);
        x.waits(2, 1);
        x.undo();
        x.run();
        x.from(0);
        DUE.is("32: NO", x.status(1), 4);
        for (int k = 0; k < 8; k++) {
            x.hurt(0);
        }
        DUE.is("32: FULL", x.status(2), 1);
        x.hill(1, 1);
        Due.type(x, "hill 1 1;");
        x.read();
        DUE.is("32: it stays", x.status(0), 6);
        x.place(9);
        x.apart();
        x.bale();
        x.clear();
        x.read();
        DUE.is("32: NONE and FAULT are none, BAD", x.status(0), 6);
        DUE.is("32: NONE and FAULT are none, NO", x.status(1), 4);
        DUE.is("32: NONE and FAULT are none, FULL", x.status(2), 1);
    }

    private static void promise33Count() {
        CheeseHill x = new CheeseHill();
        x.hill(7, 2);
        x.runner(0, 1, 1);
        x.runner(0, 1, 1);
        x.runner(0, 1, 1);
        x.hurt(0);
        x.hurt(0);
        x.hurt(0);
        x.hurt(0);
        x.run();
        x.type(0, 6);
        long[] counts = {7, 2, 3, 4, 1, 6};
        for (int k = 0; k < counts.length; k++) {
            DUE.is("33: count(" + k + ")", x.count(k), counts[k]);
        }
        DUE.is("33: count(6)", x.count(6), CheeseHill.BAD);
        DUE.is("33: count(-1)", x.count(-1), CheeseHill.BAD);
        DUE.is("33: refused", x.status(0), 2);
    }

    private static long mixed(long... all) {
        long h = 809;
        for (long v : all) {
            h = 31 * h + v;
        }
        return h;
    }

    private static void promise34Digest() {
        CheeseHill x = new CheeseHill();
        long[] first = new long[68];
        first[0] = 6;
        first[1] = 5;
        for (int k = 6; k < 66; k += 2) {
            first[k] = 3;
        }
        first[67] = 1;
        DUE.is("34: at first", x.digest(), mixed(first));
        x.hill(2, 2);
        x.put(0, 0, 1, 5);
        x.put(1, 1, 0, 2);
        x.runner(3, 1, 42);
        x.runner(1, 0, 7);
        x.line(0, 1, 2);
        x.line(1, 0, 1);
        x.hurt(2);
        x.hurt(0);
        x.hurt(1);
        x.run();
        x.type(0, 4);
        x.feet(1);
        // slider: paces 3 and 6: 37 of 40 times 34 of 40
        DUE.is("34: all of it", x.digest(), mixed(2, 2, 2, 3, 1, 4,
            3, 0, 5, 0, 3, 2, 3, 0,
            3, 1, 42, 0, 2, 1, 0, 7, 1, 0,
            2, 0, 1, 629, 800));
        x.status(7);
        x.image(0);
        DUE.is("34: status and images are not of it", x.digest(), mixed(2, 2, 2, 3, 1, 4,
            3, 0, 5, 0, 3, 2, 3, 0,
            3, 1, 42, 0, 2, 1, 0, 7, 1, 0,
            2, 0, 1, 629, 800));
    }
}
