import java.math.BigInteger;

/** The edges of promises 29 to 34, and of what is refused: in which order, how counted, up to the 512th call. */
public final class KeptEdgesTest {
    private static final Due DUE = new Due();
    private static final Twins TWINS = new Twins(DUE);

    public static void main(String[] args) {
        promise29Part();
        promise30Image();
        promise31From();
        promise31WhatMayBeUndone();
        promise31WhatIsNotKept();
        promise32Status();
        promise32EachReason();
        promise33Count();
        promise34AtFirst();
        promise34Fullest();
        lastOfAllCalls();
        DUE.end("KeptEdgesTest");
    }

    // "THE FRACTION is 0 by 1 at first; lowest terms, below above 0"
    private static void promise29Part() {
        for (State s : State.values()) {
            TWINS.beyond("29: part, what", s, 0, 1, (x, v) -> x.part(v));
            TWINS.asks("29: above", s, x -> x.part(0));
            TWINS.asks("29: below", s, x -> x.part(1));
        }
        TWINS.asks("29: above at first", State.FRESH, x -> x.part(0), 0);
        TWINS.asks("29: below at first", State.FRESH, x -> x.part(1), 1);
        TWINS.asks("29: above, never set", State.SMALLEST, x -> x.part(0), 0);
        CheeseHill x = new CheeseHill();
        x.hill(2, 3);
        x.put(1, 0, 1, 1);
        x.put(1, 1, 0, 1);
        x.put(1, 1, 2, 1);
        long[][] due = {{1, 4}, {1, 2}, {1, 4}};
        for (int l = 0; l < 3; l++) {
            x.cheese(1, l);
            DUE.is("29: above in lowest terms", x.part(0), due[l][0]);
            DUE.is("29: below in lowest terms", x.part(1), due[l][1]);
        }
        x.cheese(1, 5);
        x.feet(0);
        DUE.is("29: above stays where it is refused", x.part(0), 1);
        DUE.is("29: below stays where it is refused", x.part(1), 4);
        x.fence(1, 100);
        DUE.is("29: fence is none of its calls", x.part(1), 4);
        x.cheese(0, 2);
        DUE.is("29: 0", x.part(0), 0);
        DUE.is("29: by 1", x.part(1), 1);
    }

    private static void promise30Image() {
        for (State s : State.values()) {
            TWINS.beyond("30: image, i", s, 0, 1, (x, v) -> x.image(v));
            for (int i = 0; i <= 1; i++) {
                CheeseHill x = s.make();
                DUE.is("30: image(" + i + ")", x.image(i), 1);
                DUE.is("30: again", x.image(i), 1);
                change(x);
                DUE.is("30: from(" + i + ")", x.from(i), 1);
                CheeseHill y = s.make();
                y.image(i);
                TWINS.alike("30: all is as it was kept [" + s + "]", x, y);
            }
        }
        CheeseHill x = new CheeseHill();
        x.put(0, 0, 0, 1);
        x.image(0);
        x.put(0, 0, 0, 2);
        x.image(1);
        x.put(0, 0, 0, 4);
        x.image(0);
        x.from(1);
        DUE.is("30: 1 is not 0", x.at(0, 0, 0), 2);
        x.from(0);
        DUE.is("30: the later one of 0", x.at(0, 0, 0), 4);
    }

    /** All that an image keeps becomes other; nothing else does. */
    private static void change(CheeseHill x) {
        for (int k = x.count(4); k > 0; k--) {
            x.undo();
        }
        x.heal();
        x.put(0, 0, 0, 8 - x.at(0, 0, 0) / 2);
        x.put(1, 0, 0, 3 - x.at(1, 0, 0));
        if (x.count(2) > 0) {
            x.line(0, 0, 2);
            x.run();
        }
        x.hill(8, 6);
        for (int i = 0; i < 6; i++) {
            x.runner(4 - i % 5, i, 10 * i);
            for (int r = 0; r < 8; r++) {
                x.line(i, r, 1 + (i + r) % 2);
                x.put(0, r, i, 9 - r);
                x.put(1, r, i, 3);
            }
            x.hurt(3);
            x.run();
        }
    }

    // "NO: none was kept"; BAD is ahead of NO
    private static void promise31From() {
        for (State s : State.values()) {
            TWINS.beyond("31: from, i", s, 0, 1, (x, v) -> x.from(v));
            for (int i = 0; i <= 1; i++) {
                int which = i;
                if (s.keepsImage(i)) {
                    CheeseHill x = s.make();
                    DUE.is("31: from(" + i + ")", x.from(i), 1);
                    change(x);
                    DUE.is("31: from(" + i + ") again", x.from(i), 1);
                    CheeseHill y = s.make();
                    y.from(i);
                    TWINS.alike("31: the image stays [" + s + "]", x, y);
                } else {
                    TWINS.no("31: none was kept: from(" + i + ")", s, x -> x.from(which));
                    CheeseHill x = s.make();
                    x.image(i);
                    DUE.is("31: one is kept now", x.from(i), 1);
                }
            }
        }
        TWINS.no("31: 1 was kept, 0 was not", () -> {
            CheeseHill x = new CheeseHill();
            x.image(1);
            return x;
        }, x -> x.from(0));
        TWINS.no("31: 0 was kept, 1 was not", () -> {
            CheeseHill x = new CheeseHill();
            x.image(0);
            return x;
        }, x -> x.from(1));
        TWINS.no("31: a refused one keeps nothing", () -> {
            CheeseHill x = new CheeseHill();
            x.image(2);
            x.image(-1);
            return x;
        }, x -> x.from(0));
        CheeseHill x = new CheeseHill();
        x.hill(1, 1);
        x.image(0);
        x.hill(8, 6);
        x.image(1);
        x.from(0);
        DUE.is("31: rows of the smallest", x.count(0), 1);
        DUE.is("31: a row beyond it", x.at(0, 1, 0), -2);
        x.from(1);
        DUE.is("31: rows of the greatest", x.count(0), 8);
        DUE.is("31: its last cell", x.at(0, 7, 5), 3);
    }

    // "what may be undone they keep; it goes on from one"
    private static void promise31WhatMayBeUndone() {
        for (int runs = 0; runs <= 7; runs++) {
            CheeseHill x = new CheeseHill();
            x.hill(1, 1);
            x.put(0, 0, 0, 0);
            x.runner(0, 0, 0);
            x.runner(0, 0, 0);
            for (int k = 0; k < runs; k++) {
                x.run();
            }
            x.image(1);
            x.put(0, 0, 0, 5);
            x.run();
            x.run();
            x.from(1);
            int may = Math.min(6, runs);
            DUE.is("31: slope as kept", x.at(0, 0, 0), runs);
            DUE.is("31: may be undone as kept", x.count(4), may);
            x.run();
            DUE.is("31: it goes on", x.at(0, 0, 0), runs + 1);
            DUE.is("31: one more, 6 at most", x.count(4), Math.min(6, runs + 1));
            x.from(1);
            for (int k = 1; k <= may; k++) {
                DUE.is("31: undone", x.undo(), 1);
                DUE.is("31: as it was then", x.at(0, 0, 0), runs - k);
            }
            DUE.is("31: no more", x.undo(), -3);
        }
    }

    // "IMAGES 0, 1 keep all but them, THE TEXT, THE FRACTION and STATUS"
    private static void promise31WhatIsNotKept() {
        CheeseHill x = new CheeseHill();
        x.image(0);
        x.type(0x68696c6cL, 4);
        x.cheese(0, 0);
        x.put(0, 0, 0, 8);
        x.image(1);
        x.status(3);
        x.undo();
        for (int k = 0; k < 9; k++) {
            x.hurt(0);
        }
        DUE.is("31: from", x.from(0), 1);
        DUE.is("31: the hill is", x.at(0, 0, 0), 3);
        DUE.is("31: hurt is", x.count(3), 0);
        DUE.is("31: the text is not", x.count(5), 4);
        DUE.is("31: the text's bytes are not", x.read(), -14);
        DUE.is("31: the fraction is not, above", x.part(0), 1);
        DUE.is("31: the fraction is not, below", x.part(1), 1);
        DUE.is("31: BAD is not", x.status(0), 1);
        DUE.is("31: NO is not", x.status(1), 1);
        DUE.is("31: FULL is not", x.status(2), 1);
        DUE.is("31: images are not", x.from(1), 1);
        DUE.is("31: what the other image keeps", x.at(0, 0, 0), 8);
    }

    // "-1: another what (counts as BAD)"
    private static void promise32Status() {
        for (State s : State.values()) {
            TWINS.beyond("32: status, what", s, 0, 2, -1, (x, v) -> x.status(v));
            for (int what = 0; what <= 2; what++) {
                int w = what;
                TWINS.asks("32: status(" + what + ")", s, x -> x.status(w));
            }
        }
        CheeseHill x = State.MIDDLING.make();
        DUE.is("32: BAD of the middling state", x.status(0), 1);
        DUE.is("32: NO of it", x.status(1), 1);
        DUE.is("32: FULL of it", x.status(2), 0);
        CheeseHill y = State.FULLEST.make();
        DUE.is("32: BAD of the fullest state", y.status(0), 0);
        DUE.is("32: NO of it", y.status(1), 0);
        DUE.is("32: FULL of it", y.status(2), 3);
    }

    /** Each call that may be refused, once for each of its reasons: one more of that reason, and of no other. */
    private static void promise32EachReason() {
        CheeseHill x = State.FULLEST.make();
        Twins.Call[] bad = {y -> y.hill(0, 0), y -> y.put(2, 0, 0, 0), y -> y.at(2, 0, 0), y -> y.runner(5, 0, 0),
            y -> y.line(6, 0, 0), y -> y.type(0, 0), y -> y.goes(6, 0, 0), y -> y.down(6, 0), y -> y.best(6, 0, 0),
            y -> y.fall(6, 0), y -> y.place(-1), y -> y.began(6, 0), y -> y.cheese(6, 0), y -> y.fence(6, 1), y -> y.feet(6),
            y -> y.hurt(4), y -> y.waits(0, 1), y -> y.drawn(-1, 0), y -> y.part(2), y -> y.image(2), y -> y.from(2),
            y -> y.status(3), y -> y.count(6)};
        long[] answers = {-2, -2, -2, -2, -2, -2, -2, -2, -2, -2, -2, -1000, -2, -2, -2, -2, -10, -2, -2, -2, -2, -1, -2};
        for (int k = 0; k < bad.length; k++) {
            DUE.is("32: BAD " + k, bad[k].on(x), answers[k]);
            DUE.is("32: BAD is counted", x.status(0), k + 1);
        }
        DUE.is("32: and not as NO", x.status(1), 0);
        DUE.is("32: and not as FULL", x.status(2), 3);
        DUE.is("32: NO of waits", x.waits(1, 1), -20);
        x.hill(1, 1);
        DUE.is("32: NO of run", x.run(), -3);
        DUE.is("32: NO of undo", x.undo(), -3);
        DUE.is("32: NO is counted", x.status(1), 3);
        DUE.is("32: NO of from", new CheeseHill().from(0), -3);
        x = State.FULLEST.make();
        DUE.is("32: FULL of runner", x.runner(0, 0, 0), -4);
        DUE.is("32: FULL of type", x.type(0, 1), -4);
        DUE.is("32: FULL of hurt", x.hurt(0), -4);
        DUE.is("32: FULL is counted", x.status(2), 6);
        DUE.is("32: and not as BAD", x.status(0), 0);
        DUE.is("32: and not as NO again", x.status(1), 0);
    }

    private static void promise33Count() {
        int[][] due = {{6, 5, 0, 0, 0, 0}, {1, 1, 1, 1, 0, 9}, {3, 4, 3, 2, 2, 45}, {8, 6, 6, 8, 6, 250}};
        for (State s : State.values()) {
            TWINS.beyond("33: count, what", s, 0, 5, (x, v) -> x.count(v));
            for (int what = 0; what <= 5; what++) {
                int w = what;
                TWINS.asks("33: count(" + what + ")", s, x -> x.count(w), due[s.ordinal()][what]);
            }
        }
    }

    private static void promise34AtFirst() {
        for (State s : State.values()) {
            TWINS.asks("34: digest", s, CheeseHill::digest);
        }
        BigInteger h = BigInteger.valueOf(809);
        h = fold(h, 6, 5, 0, 0, 0, 0);
        for (int k = 0; k < 30; k++) {
            h = fold(h, 3, 0);
        }
        DUE.is("34: at first", new CheeseHill().digest(), fold(h, 0, 1).longValue());
        h = fold(BigInteger.valueOf(809), 1, 1, 0, 0, 0, 0, 3, 0, 0, 1);
        CheeseHill x = new CheeseHill();
        x.hill(1, 1);
        DUE.is("34: the smallest hill, no number runs over", x.digest(), h.longValueExact());
    }

    /** Counted without an end, to be cut to 64 bits at last. */
    private static BigInteger fold(BigInteger h, long... all) {
        for (long v : all) {
            h = h.multiply(BigInteger.valueOf(31)).add(BigInteger.valueOf(v));
        }
        return h;
    }

    // a number that runs over, and everything at its edge
    private static void promise34Fullest() {
        CheeseHill x = State.FULLEST.make();
        BigInteger h = fold(BigInteger.valueOf(809), 8, 6, 6, 8, 6, 250);
        for (int k = 0; k < 48; k++) {
            h = fold(h, x.at(0, k / 6, k % 6), x.at(1, k / 6, k % 6));
        }
        for (int i = 0; i < 6; i++) {
            h = fold(h, i % 5, 5 - i / 2, 99 - i);
            for (int r = 0; r < 8; r++) {
                h = fold(h, r == 7 ? 2 - i % 3 : r == i ? i % 3 : 0);
            }
        }
        h = fold(h, 0, 1, 2, 3, 0, 1, 2, 3);
        h = fold(h, x.part(0), x.part(1));
        DUE.is("34: all at its edge", x.digest(), h.longValue());
    }

    // "An object is used for at most 512 calls": the last one answers as the first
    private static void lastOfAllCalls() {
        CheeseHill x = new CheeseHill();
        for (int k = 0; k < 511; k++) {
            x.count(6);
        }
        DUE.is("32: 511 are counted", x.status(0), 511);
        CheeseHill y = new CheeseHill();
        y.runner(0, 0, 0);
        y.runner(0, 0, 0);
        for (int k = 0; k < 507; k++) {
            y.run();
        }
        DUE.is("23: 507 runs", y.at(0, 0, 0), 9);
        DUE.is("24: six may be undone", y.count(4), 6);
        DUE.is("34: the 512th call", y.digest(), worn().digest());
    }

    private static CheeseHill worn() {
        CheeseHill x = new CheeseHill();
        x.runner(0, 0, 0);
        x.runner(0, 0, 0);
        for (int r = 0; r < 6; r++) {
            x.put(0, r, 0, 9);
        }
        for (int k = 0; k < 6; k++) {
            x.run();
        }
        return x;
    }
}
