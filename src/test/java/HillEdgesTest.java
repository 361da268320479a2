/** The edges of promises 1 to 8: just inside, at, and just beyond each of them. The text's own are in TextEdgesTest. */
public final class HillEdgesTest {
    private static final Due DUE = new Due();
    private static final Twins TWINS = new Twins(DUE);

    public static void main(String[] args) {
        promise1AtFirst();
        promise2RowsAndLanes();
        promise2AsAtFirst();
        promise2WhatStays();
        promise2Refused();
        promise3SlopeAndGround();
        promise3EveryCell();
        promise3Refused();
        promise4Refused();
        promise5KindLaneStart();
        promise5SixRunners();
        promise5Refused();
        promise6StraightOnAtFirst();
        promise6EveryRunnerAndRow();
        promise6Refused();
        promise7Bytes();
        promise7TwoHundredAndFifty();
        promise7Refused();
        promise8Clear();
        DUE.end("HillEdgesTest");
    }

    private static void counts(String told, CheeseHill x, int... due) {
        for (int k = 0; k < due.length; k++) {
            DUE.is(told + ": count(" + k + ")", x.count(k), due[k]);
        }
    }

    private static void cellsAreAsAtFirst(String told, CheeseHill x, int rows, int lanes) {
        for (int r = 0; r < rows; r++) {
            for (int l = 0; l < lanes; l++) {
                DUE.is(told + ": slope at first", x.at(0, r, l), 3);
                DUE.is(told + ": ground at first", x.at(1, r, l), 0);
            }
        }
        DUE.is(told + ": a row less", x.at(0, rows, 0), -2);
        DUE.is(told + ": a lane less", x.at(0, 0, lanes), -2);
    }

    // "6 at first", "5 at first", "3 at first", "0 GRASS (at first)", "THE FRACTION is 0 by 1 at first"; "no RUNNERS"
    private static void promise1AtFirst() {
        CheeseHill x = new CheeseHill();
        counts("1", x, 6, 5, 0, 0, 0, 0);
        for (int reason = 0; reason <= 2; reason++) {
            DUE.is("1: status(" + reason + ")", x.status(reason), 0);
        }
        cellsAreAsAtFirst("1", x, 6, 5);
        DUE.is("1: above", x.part(0), 0);
        DUE.is("1: below", x.part(1), 1);
        TWINS.bad("1: RUNNER 0 is not there", State.FRESH, y -> y.down(0, 0));
        TWINS.no("1: nothing to undo", State.FRESH, CheeseHill::undo);
        TWINS.no("1: no IMAGE 0", State.FRESH, y -> y.from(0));
        TWINS.no("1: no IMAGE 1", State.FRESH, y -> y.from(1));
        TWINS.asks("1: an empty TEXT", State.FRESH, CheeseHill::read, -10);
        TWINS.asks("1: no RUNS of HURT", State.FRESH, y -> y.waits(1, 1), 0);
        CheeseHill spoiled = new CheeseHill();
        spoiled.put(0, 0, 0, 9);
        spoiled.runner(0, 0, 0);
        spoiled.image(0);
        TWINS.alike("1: one object has nothing of another", new CheeseHill(), State.FRESH.make());
    }

    // "H ROWS (1 .. 8)", "W LANES (1 .. 6)"
    private static void promise2RowsAndLanes() {
        for (int h = 1; h <= 8; h++) {
            for (int w = 1; w <= 6; w++) {
                CheeseHill x = State.FULLEST.make();
                DUE.is("2: hill(" + h + ", " + w + ")", x.hill(h, w), 1);
                counts("2: hill(" + h + ", " + w + ")", x, h, w, 0, 0, 0, 250);
                cellsAreAsAtFirst("2: hill(" + h + ", " + w + ")", x, h, w);
            }
        }
    }

    // "as at first; no RUNNERS, HURT; nothing to undo"
    private static void promise2AsAtFirst() {
        CheeseHill x = new CheeseHill();
        x.hill(8, 6);
        for (int i = 0; i < 6; i++) {
            x.runner(4, 5, 99);
            for (int r = 0; r < 8; r++) {
                x.line(i, r, 2);
                x.put(0, r, i, 8);
                x.put(1, r, i, 3);
            }
            x.run();
            x.hurt(3);
        }
        x.hill(6, 5);
        TWINS.alike("2: hill(6, 5) is as at first", x, new CheeseHill());
    }

    // "A HILL .. takes the place of all but IMAGES, THE TEXT, THE FRACTION, STATUS" is told of read; hill names what goes
    private static void promise2WhatStays() {
        for (State s : State.values()) {
            for (int i = 0; i <= 1; i++) {
                if (s.keepsImage(i)) {
                    CheeseHill x = s.make();
                    x.hill(5, 3);
                    x.from(i);
                    CheeseHill y = s.make();
                    y.from(i);
                    TWINS.alike("2: images, text, fraction, status stay [" + s + "]", x, y);
                }
            }
        }
    }

    private static void promise2Refused() {
        for (State s : State.values()) {
            TWINS.beyond("2: hill, ROWS", s, 1, 8, (x, v) -> x.hill(v, 1));
            TWINS.beyond("2: hill, LANES", s, 1, 6, (x, v) -> x.hill(1, v));
            TWINS.bad("2: hill(7, 7): LANES are not ROWS", s, x -> x.hill(7, 7));
            TWINS.bad("2: hill(8, 8)", s, x -> x.hill(8, 8));
            TWINS.bad("2: both are wrong, counted once", s, x -> x.hill(0, 0));
        }
    }

    // "a SLOPE (0 .. 9)", "a GROUND: 0 .. 3"; "what it was"
    private static void promise3SlopeAndGround() {
        for (State s : State.values()) {
            CheeseHill x = s.make();
            int r = s.rows - 1;
            int l = s.lanes - 1;
            int wasSlope = x.at(0, r, l);
            int wasGround = x.at(1, r, l);
            for (int v : new int[] {0, 1, 8, 9, 9, 0}) {
                DUE.is("3: put of slope " + v, x.put(0, r, l, v), wasSlope);
                DUE.is("3: slope is put", x.at(0, r, l), v);
                DUE.is("3: ground stays", x.at(1, r, l), wasGround);
                wasSlope = v;
            }
            for (int v : new int[] {0, 1, 2, 3, 3, 0}) {
                DUE.is("3: put of ground " + v, x.put(1, r, l, v), wasGround);
                DUE.is("3: ground is put", x.at(1, r, l), v);
                DUE.is("3: slope stays", x.at(0, r, l), wasSlope);
                wasGround = v;
            }
        }
    }

    private static void promise3EveryCell() {
        CheeseHill x = new CheeseHill();
        x.hill(8, 6);
        for (int k = 0; k < 48; k++) {
            DUE.is("3: the slope was 3", x.put(0, k / 6, k % 6, k * 7 % 10), 3);
            DUE.is("3: the ground was 0", x.put(1, k / 6, k % 6, k * 3 % 4), 0);
        }
        for (int k = 0; k < 48; k++) {
            DUE.is("4: slope of cell " + k, x.at(0, k / 6, k % 6), k * 7 % 10);
            DUE.is("4: ground of cell " + k, x.at(1, k / 6, k % 6), k * 3 % 4);
        }
    }

    private static void promise3Refused() {
        for (State s : State.values()) {
            TWINS.beyond("3: put, what", s, 0, 1, (x, v) -> x.put(v, 0, 0, 0));
            for (int what = 0; what <= 1; what++) {
                int w = what;
                TWINS.beyond("3: put " + w + ", ROW", s, 0, s.rows - 1, (x, v) -> x.put(w, v, 0, 1));
                TWINS.beyond("3: put " + w + ", LANE", s, 0, s.lanes - 1, (x, v) -> x.put(w, 0, v, 1));
            }
            TWINS.beyond("3: put, SLOPE", s, 0, 9, (x, v) -> x.put(0, 0, 0, v));
            TWINS.beyond("3: put, GROUND", s, 0, 3, (x, v) -> x.put(1, 0, 0, v));
            TWINS.bad("3: a slope of 9 is no ground", s, x -> x.put(1, 0, 0, 9));
            TWINS.bad("3: all are wrong, counted once", s, x -> x.put(2, -1, -1, -1));
        }
    }

    private static void promise4Refused() {
        for (State s : State.values()) {
            TWINS.beyond("4: at, what", s, 0, 1, (x, v) -> x.at(v, 0, 0));
            for (int what = 0; what <= 1; what++) {
                int w = what;
                TWINS.beyond("4: at " + w + ", ROW", s, 0, s.rows - 1, (x, v) -> x.at(w, v, 0));
                TWINS.beyond("4: at " + w + ", LANE", s, 0, s.lanes - 1, (x, v) -> x.at(w, 0, v));
                TWINS.asks("4: at, the first CELL", s, x -> x.at(w, 0, 0));
                TWINS.asks("4: at, the last CELL", s, x -> x.at(w, s.rows - 1, s.lanes - 1));
            }
            TWINS.bad("4: all are wrong, counted once", s, x -> x.at(-1, 8, 6));
        }
    }

    // KINDS 0 .. 4, "a START (0 .. 99, in tenths)", a LANE of the hill
    private static void promise5KindLaneStart() {
        int[][] edges = {{0, 0, 0}, {4, 0, 0}, {3, 5, 0}, {1, 4, 99}, {2, 1, 98}, {4, 5, 1}};
        CheeseHill x = new CheeseHill();
        x.hill(2, 6);
        for (int i = 0; i < edges.length; i++) {
            DUE.is("5: his number", x.runner(edges[i][0], edges[i][1], edges[i][2]), i);
            DUE.is("5: his lane", x.goes(i, 0, 0), edges[i][1]);
            DUE.is("5: his start", x.goes(i, 0, 2), edges[i][2]);
        }
        // row 0 of slope 3: upright, bold 1; slider 3; tumbler 5; crawler 1
        int[] paces = {1, 1, 1, 3, 5, 1};
        for (int i = 0; i < paces.length; i++) {
            DUE.is("5: his kind's pace", x.goes(i, 0, 1), paces[i]);
        }
        CheeseHill one = new CheeseHill();
        one.hill(1, 1);
        DUE.is("5: the one lane", one.runner(4, 0, 99), 0);
    }

    // "RUNNERS 0 .. 5, as they come"; "FULL: 6"
    private static void promise5SixRunners() {
        CheeseHill x = new CheeseHill();
        for (int i = 0; i < 6; i++) {
            DUE.is("5: there are", x.count(2), i);
            DUE.is("5: as they come", x.runner(0, 0, i), i);
        }
        DUE.is("5: six", x.count(2), 6);
        DUE.is("5: a seventh", x.runner(0, 0, 6), -4);
        DUE.is("5: still six", x.count(2), 6);
        DUE.is("5: the sixth is as he was", x.goes(5, 0, 2), 5);
        x.hill(1, 1);
        DUE.is("5: from 0 again", x.runner(0, 0, 0), 0);
    }

    private static void promise5Refused() {
        for (State s : State.values()) {
            // Six are there in the fullest one: BAD is ahead of FULL.
            TWINS.beyond("5: runner, KIND", s, 0, 4, (x, v) -> x.runner(v, 0, 0));
            TWINS.beyond("5: runner, LANE", s, 0, s.lanes - 1, (x, v) -> x.runner(0, v, 0));
            TWINS.beyond("5: runner, START", s, 0, 99, (x, v) -> x.runner(0, 0, v));
            TWINS.bad("5: all are wrong, counted once", s, x -> x.runner(5, 6, 100));
        }
        TWINS.full("5: six are there", State.FULLEST, x -> x.runner(0, 0, 0));
        TWINS.full("5: six are there, with the greatest numbers", State.FULLEST, x -> x.runner(4, 5, 99));
    }

    // a LINE: "0 at first", also of one who comes where another's line was
    private static void promise6StraightOnAtFirst() {
        CheeseHill x = new CheeseHill();
        x.hill(8, 6);
        x.image(0);
        for (int round = 0; round < 3; round++) {
            for (int i = 0; i < 6; i++) {
                x.runner(0, 0, 0);
                for (int r = 0; r < 8; r++) {
                    DUE.is("6: at first", x.line(i, r, 1 + (i + r) % 2), 0);
                }
            }
            if (round == 0) {
                x.hill(8, 6);
            } else {
                x.from(0);
            }
        }
        CheeseHill y = State.FULLEST.make();
        y.clear();
        Due.type(y, "hill 8 6;runner 0 0 0;");
        y.read();
        y.read();
        for (int r = 0; r < 8; r++) {
            DUE.is("6: at first, behind a text", y.line(0, r, 2), 0);
        }
        y.runner(0, 0, 0);
        for (int r = 0; r < 8; r++) {
            DUE.is("6: at first, behind a text's runner", y.line(1, r, 2), 0);
        }
    }

    private static void promise6EveryRunnerAndRow() {
        CheeseHill x = new CheeseHill();
        x.hill(8, 6);
        for (int i = 0; i < 6; i++) {
            x.runner(0, 0, 0);
        }
        for (int k = 0; k < 48; k++) {
            DUE.is("6: was 0", x.line(k / 8, k % 8, (k + k / 8) % 3), 0);
        }
        for (int k = 0; k < 48; k++) {
            DUE.is("6: what it was", x.line(k / 8, k % 8, 2), (k + k / 8) % 3);
            DUE.is("6: is put", x.line(k / 8, k % 8, 0), 2);
        }
    }

    private static void promise6Refused() {
        for (State s : State.values()) {
            TWINS.beyond("6: line, RUNNER", s, 0, s.runners - 1, (x, v) -> x.line(v, 0, 0));
            TWINS.beyond("6: line, ROW", s, 0, s.rows - 1, (x, v) -> x.line(0, v, 1));
            TWINS.beyond("6: line, s", s, 0, 2, (x, v) -> x.line(0, 0, v));
            TWINS.bad("6: all are wrong, counted once", s, x -> x.line(6, 8, 3));
        }
    }

    private static CheeseHill typed(long... valuesAndMany) {
        CheeseHill x = new CheeseHill();
        for (int k = 0; k < valuesAndMany.length; k += 2) {
            x.type(valuesAndMany[k], (int) valuesAndMany[k + 1]);
        }
        return x;
    }

    // "The lowest n (1 .. 8) bytes of v, the highest of them first, come to THE TEXT"
    private static void promise7Bytes() {
        long hill2 = 0x68696c6c20322033L; // "hill 2 3"
        DUE.is("7: eight bytes, the highest first", typed(hill2, 8, 0x3b, 1).read(), 1);
        DUE.is("7: one byte a call", typed('h', 1, 'i', 1, 'l', 1, 'l', 1, '4', 1, ' ', 1, '5', 1, ';', 1).read(), 1);
        CheeseHill x = typed(0xffffffffffffff00L | 'h', 1, 0xff69, 1, 0x80000000006c6cL, 2, 0x7fffffff34203b35L, 2, 0x5353b, 2);
        // "h", "i", "ll", ";5", "5;"
        DUE.is("7: none but the lowest", x.read(), -14);
        DUE.is("7: how many", x.count(5), 8);
        CheeseHill y = typed(-1, 8);
        DUE.is("7: bytes of 255", y.read(), -10);
        DUE.is("7: a byte of 32 + 256", typed(hill2, 8, 0x120, 1, 0x13b, 1).read(), 1);
        DUE.is("7: the least long", typed(Long.MIN_VALUE, 8).read(), -10);
        DUE.is("7: seven bytes", typed(hill2, 7, 0x333b, 2).read(), -10);
        DUE.is("7: seven of eight, the highest is left out", typed(0x68, 1, hill2, 7, 0x3b, 1).read(), 1);
        for (int n = 1; n <= 8; n++) {
            CheeseHill z = new CheeseHill();
            DUE.is("7: n = " + n, z.type(0x2020202020202020L, n), n);
            DUE.is("7: n = " + n + " again", z.type(0x2020202020202020L, n), 2 * n);
            DUE.is("7: they are all there", z.read(), -10 - 2 * n);
        }
    }

    /** A text of so many blanks. */
    private static CheeseHill blanks(int many) {
        CheeseHill x = new CheeseHill();
        Due.type(x, " ".repeat(many));
        return x;
    }

    // "THE HILL is told by a TEXT (250 bytes at most)"
    private static void promise7TwoHundredAndFifty() {
        for (int n = 1; n <= 8; n++) {
            int many = n;
            DUE.is("7: 249 at last", blanks(249 - n).type(0x2020202020202020L, n), 249);
            DUE.is("7: 250 at last", blanks(250 - n).type(0x2020202020202020L, n), 250);
            TWINS.full("7: 251 by " + n, () -> blanks(251 - many), x -> x.type(0x2020202020202020L, many));
            TWINS.full("7: " + n + " more than 250", () -> blanks(250), x -> x.type(0x2020202020202020L, many));
            CheeseHill x = blanks(250 - n);
            x.type(0x2020202020202020L, n);
            DUE.is("7: all 250 are there", x.read(), -260);
        }
    }

    private static void promise7Refused() {
        for (State s : State.values()) {
            // 250 bytes are there in the fullest one: BAD is ahead of FULL.
            TWINS.beyond("7: type, n", s, 1, 8, (x, v) -> x.type(0x2020202020202020L, v));
        }
        TWINS.full("7: 250 bytes are there", State.FULLEST, x -> x.type(0x20, 1));
        TWINS.full("7: 250 bytes are there, eight more", State.FULLEST, x -> x.type(-1, 8));
    }

    // "THE TEXT is empty: how many it had", also of none and of 250
    private static void promise8Clear() {
        int[] had = {0, 9, 45, 250};
        for (State s : State.values()) {
            CheeseHill x = s.make();
            DUE.is("8: clear [" + s + "]", x.clear(), had[s.ordinal()]);
            DUE.is("8: none are left", x.count(5), 0);
            DUE.is("8: it is empty", x.read(), -10);
            DUE.is("8: clear again", x.clear(), 0);
            DUE.is("8: from the first byte on again", x.type(0x68696c6c3120313bL, 8), 8);
            DUE.is("8: what is typed anew is read", x.read(), 1);
        }
        TWINS.asks("8: clear of an empty one", State.FRESH, CheeseHill::clear, 0);
        CheeseHill x = State.FULLEST.make();
        long above = x.part(0);
        x.clear();
        counts("8: nothing else goes", x, 8, 6, 6, 8, 6, 0);
        DUE.is("8: the fraction stays", x.part(0), above);
        DUE.is("8: FULL stays counted", x.status(2), 3);
        DUE.is("8: the images stay", x.from(0) + x.from(1), 2);
    }
}
