/** The edges of promises 23 to 28: nobody, two who go in a cell, 9 at most, 6 to undo, 8 runs of hurt, ambulances, seeds. */
public final class RunsEdgesTest {
    private static final Due DUE = new Due();
    private static final Twins TWINS = new Twins(DUE);

    public static void main(String[] args) {
        promise23Refused();
        promise23TwoOrMore();
        promise23NineAtMost();
        promise23First();
        promise23WhatStays();
        promise24Undo();
        promise24SixAtMost();
        promise24Refused();
        promise25Hurt();
        promise25Refused();
        promise26Heal();
        promise27Minutes();
        promise27TooManyHurt();
        promise27Refused();
        promise28Seeds();
        promise28WhoDraws();
        promise28Refused();
        DUE.end("RunsEdgesTest");
    }

    private static CheeseHill oneCell(int slope, int runners) {
        CheeseHill x = new CheeseHill();
        x.hill(1, 1);
        x.put(0, 0, 0, slope);
        for (int i = 0; i < runners; i++) {
            x.runner(0, 0, i);
        }
        return x;
    }

    // "NO: no RUNNERS"
    private static void promise23Refused() {
        TWINS.no("23: no RUNNERS at first", State.FRESH, CheeseHill::run);
        for (State s : State.values()) {
            TWINS.no("23: no RUNNERS behind hill", () -> {
                CheeseHill x = s.make();
                x.hill(8, 6);
                return x;
            }, CheeseHill::run);
        }
        CheeseHill one = oneCell(3, 1);
        DUE.is("23: one will do", one.run(), 0);
        DUE.is("23: and may be undone", one.count(4), 1);
    }

    // "SLOPE of each CELL in which two RUNNERS or more go is 1 more"
    private static void promise23TwoOrMore() {
        for (int n = 1; n <= 6; n++) {
            CheeseHill x = oneCell(3, n);
            x.run();
            DUE.is("23: " + n + " went", x.at(0, 0, 0), n < 2 ? 3 : 4);
        }
        CheeseHill x = new CheeseHill();
        x.hill(8, 6);
        x.runner(0, 0, 0);
        x.runner(2, 5, 99);
        for (int r = 0; r < 8; r++) {
            x.line(0, r, 2);
            x.line(1, r, 1);
        }
        // 0 .. 5 and then 5 all the way; 5 .. 0 and then 0: no two in one cell
        x.run();
        for (int k = 0; k < 48; k++) {
            DUE.is("23: past each other", x.at(0, k / 6, k % 6), 3);
        }
        x.runner(1, 5, 50);
        x.line(2, 0, 0);
        x.line(2, 6, 1);
        x.run();
        // he is in lane 5, in row 7 in lane 4: with 1 in row 0, with 0 in rows 5 and 6
        for (int k = 0; k < 48; k++) {
            boolean two = k == 5 || k == 5 * 6 + 5 || k == 6 * 6 + 5;
            DUE.is("23: cell " + k, x.at(0, k / 6, k % 6), two ? 4 : 3);
        }
    }

    // "(9 at most)"
    private static void promise23NineAtMost() {
        for (int slope = 0; slope <= 9; slope++) {
            CheeseHill x = oneCell(slope, 2);
            x.run();
            DUE.is("23: from " + slope, x.at(0, 0, 0), Math.min(9, slope + 1));
            x.undo();
            DUE.is("24: back to " + slope, x.at(0, 0, 0), slope);
        }
        CheeseHill x = oneCell(9, 6);
        x.run();
        DUE.is("23: nothing to wear, but it may be undone", x.count(4), 1);
    }

    // "who is first", of like ones the lesser number, as the run is done
    private static void promise23First() {
        CheeseHill like = new CheeseHill();
        for (int i = 0; i < 6; i++) {
            like.runner(0, i % 5, 9);
        }
        DUE.is("23: of like ones 0", like.run(), 0);
        CheeseHill last = new CheeseHill();
        for (int i = 0; i < 6; i++) {
            last.runner(0, i % 5, 9 - i);
        }
        DUE.is("23: 5", last.run(), 5);
        CheeseHill x = new CheeseHill();
        x.hill(1, 2);
        x.put(0, 0, 0, 5);
        x.runner(0, 1, 0);
        x.runner(0, 0, 1);
        x.runner(0, 0, 2);
        // 29; 28 and 1; at slope 6 27 and 1
        DUE.is("23: before it is worn", x.run(), 0);
        DUE.is("23: worn", x.at(0, 0, 0), 6);
        DUE.is("23: the next one", x.run(), 1);
        DUE.is("23: it was first before, too", x.place(0), 1);
    }

    private static void promise23WhatStays() {
        for (State s : new State[] {State.SMALLEST, State.MIDDLING}) {
            CheeseHill x = s.make();
            x.run();
            x.undo();
            TWINS.alike("23: run and undo leave nothing [" + s + "]", x, s.make());
        }
        CheeseHill x = State.FULLEST.make();
        long above = x.part(0);
        x.run();
        int[] counts = {8, 6, 6, 8, 6, 250};
        for (int k = 0; k < counts.length; k++) {
            DUE.is("23: behind a run: count(" + k + ")", x.count(k), counts[k]);
        }
        DUE.is("23: the fraction stays", x.part(0), above);
        for (int r = 0; r < 8; r++) {
            DUE.is("23: grounds stay", x.at(1, r, 5 - r % 6), r % 4);
        }
    }

    // "UNDO: SLOPES are as ahead of the last RUN"
    private static void promise24Undo() {
        CheeseHill x = oneCell(3, 2);
        x.run();
        x.put(0, 0, 0, 0);
        x.run();
        x.put(0, 0, 0, 9);
        x.put(1, 0, 0, 2);
        DUE.is("24: undo", x.undo(), 1);
        DUE.is("24: as ahead of the last one", x.at(0, 0, 0), 0);
        DUE.is("24: the ground is none of it", x.at(1, 0, 0), 2);
        DUE.is("24: undo again", x.undo(), 1);
        DUE.is("24: as ahead of the first one", x.at(0, 0, 0), 3);
        DUE.is("24: none is left", x.count(4), 0);
        x.run();
        DUE.is("24: a run behind it", x.at(0, 0, 0), 4);
        DUE.is("24: may be undone", x.undo(), 1);
        DUE.is("24: it was", x.at(0, 0, 0), 3);
        x.run();
        DUE.is("24: what put changes may be no more undone than before", x.put(0, 0, 0, 7), 4);
        DUE.is("24: count", x.count(4), 1);
        x.runner(4, 0, 50);
        x.line(2, 0, 1);
        x.hurt(2);
        x.undo();
        DUE.is("24: runners stay", x.count(2), 3);
        DUE.is("24: lines stay", x.line(2, 0, 1), 1);
        DUE.is("24: hurt stays", x.count(3), 1);
    }

    // "(6 at most)"
    private static void promise24SixAtMost() {
        for (int runs = 0; runs <= 9; runs++) {
            CheeseHill x = oneCell(0, 2);
            for (int k = 1; k <= runs; k++) {
                DUE.is("24: a run is done", x.run(), 0);
                DUE.is("24: worn", x.at(0, 0, 0), k);
                DUE.is("24: may be undone", x.count(4), Math.min(6, k));
            }
            int back = Math.min(6, runs);
            for (int k = 1; k <= back; k++) {
                DUE.is("24: undone", x.undo(), 1);
                DUE.is("24: is as it was", x.at(0, 0, 0), runs - k);
                DUE.is("24: are left", x.count(4), back - k);
            }
            DUE.is("24: no more", x.undo(), -3);
            DUE.is("24: no more again", x.undo(), -3);
            DUE.is("24: and nothing came of it", x.at(0, 0, 0), runs - back);
            DUE.is("24: counted as NO", x.status(1), 2);
            DUE.is("24: and no otherwise", x.status(0) + x.status(2), 0);
        }
    }

    // "NO: none may be"
    private static void promise24Refused() {
        TWINS.no("24: at first", State.FRESH, CheeseHill::undo);
        TWINS.no("24: no run yet", State.SMALLEST, CheeseHill::undo);
        for (State s : State.values()) {
            TWINS.no("24: behind hill", () -> {
                CheeseHill x = s.make();
                x.hill(8, 6);
                return x;
            }, CheeseHill::undo);
            TWINS.no("24: behind read", () -> {
                CheeseHill x = s.make();
                x.clear();
                Due.type(x, "hill 8 6;");
                x.read();
                return x;
            }, CheeseHill::undo);
            TWINS.no("24: all is undone", () -> {
                CheeseHill x = s.make();
                for (int k = x.count(4); k > 0; k--) {
                    x.undo();
                }
                return x;
            }, CheeseHill::undo);
        }
        TWINS.no("24: a run that was refused", () -> {
            CheeseHill x = new CheeseHill();
            x.run();
            return x;
        }, CheeseHill::undo);
    }

    // "0 to 8 numbers 0 .. 3"; "how many RUNS"; "FULL: 8"
    private static void promise25Hurt() {
        for (int n = 0; n <= 3; n++) {
            CheeseHill x = new CheeseHill();
            for (int k = 1; k <= 8; k++) {
                DUE.is("25: hurt(" + n + "), " + k, x.hurt(n), k);
                DUE.is("25: runs", x.count(3), k);
            }
            DUE.is("25: a ninth", x.hurt(n), -4);
            DUE.is("25: still eight", x.count(3), 8);
            DUE.is("25: counted as FULL", x.status(2), 1);
        }
    }

    private static void promise25Refused() {
        for (State s : State.values()) {
            // Eight are told in the fullest one: BAD is ahead of FULL.
            TWINS.beyond("25: hurt, n", s, 0, 3, (x, v) -> x.hurt(v));
        }
        for (int n = 0; n <= 3; n++) {
            int many = n;
            TWINS.full("25: eight are told", State.FULLEST, x -> x.hurt(many));
        }
    }

    // "No HURT told: how many RUNS there were", also none and 8
    private static void promise26Heal() {
        int[] told = {0, 1, 2, 8};
        for (State s : State.values()) {
            CheeseHill x = s.make();
            DUE.is("26: heal [" + s + "]", x.heal(), told[s.ordinal()]);
            DUE.is("26: none are told", x.count(3), 0);
            DUE.is("26: nobody waits", x.waits(1, 99), 0);
            DUE.is("26: heal again", x.heal(), 0);
            for (int k = 1; k <= 8; k++) {
                DUE.is("26: told anew", x.hurt(1), k);
            }
            DUE.is("26: and full again", x.hurt(1), -4);
            DUE.is("26: eight anew", x.waits(1, 2), 7);
        }
        TWINS.asks("26: heal of none", State.FRESH, CheeseHill::heal, 0);
        CheeseHill x = State.MIDDLING.make();
        x.heal();
        x.hurt(1);
        x.hurt(3);
        TWINS.alike("26: nothing else goes", x, State.MIDDLING.make());
    }

    private static CheeseHill told(int... hurt) {
        CheeseHill x = new CheeseHill();
        for (int n : hurt) {
            x.hurt(n);
        }
        return x;
    }

    // "a RUN begins a minute behind the last one's (the first at 0), or .. as soon as so many are"
    private static void promise27Minutes() {
        for (int a = 1; a <= 3; a++) {
            for (int m : new int[] {1, 2, 98, 99}) {
                DUE.is("27: no RUNS", told().waits(a, m), 0);
                DUE.is("27: one RUN, all there", told(a).waits(a, m), 0);
                DUE.is("27: nobody hurt", told(0, 0, 0, 0, 0, 0, 0, 0).waits(a, m), 0);
                DUE.is("27: all away each time", told(a, a).waits(a, m), m - 1);
                DUE.is("27: all away, eight times", told(a, a, a, a, a, a, a, a).waits(a, m), 7 * (m - 1));
                DUE.is("27: all away, nobody hurt: one must be there", told(a, 0).waits(a, m), m - 1);
                DUE.is("27: all are there by then", told(a, 0, a).waits(a, m), m - 1);
                DUE.is("27: one is left", told(a - 1, 1).waits(a, m), 0);
                DUE.is("27: one is left, nobody hurt", told(a - 1, 0).waits(a, m), 0);
                DUE.is("27: one fewer is there than are hurt", told(1, a).waits(a, m), m - 1);
            }
        }
        // at 0, 1, 2 one each; 3 as the first is back at 5: 5; then 6: back at 6; 7: back at 7
        DUE.is("27: one after the other", told(1, 1, 1, 1, 1, 1).waits(3, 5), 2);
        // at 0 two, at 1 one; at 2 none: two are back at 10; at 11 one is there, two again at 20
        DUE.is("27: two of three", told(2, 1, 2, 2).waits(3, 10), 8 + 9);
        // at 0 one (back at 4), at 1 one (5): at 2 none is there: 4; at 5 the other is there
        DUE.is("27: nobody hurt, but none is there", told(1, 1, 0, 1).waits(2, 4), 2);
        DUE.is("27: the last number counts", told(1, 0, 0, 0, 0, 0, 0, 1).waits(1, 7), 6);
        DUE.is("27: back as it begins", told(1, 1).waits(1, 1), 0);
        CheeseHill again = told(1, 1);
        DUE.is("27: asked", again.waits(1, 99), 98);
        DUE.is("27: asked again: all are there at first", again.waits(1, 99), 98);
        DUE.is("27: asked otherwise", again.waits(2, 5), 0);
    }

    // "(NO: more HURT in a RUN than a)": -20
    private static void promise27TooManyHurt() {
        for (int a = 1; a <= 3; a++) {
            for (int n = 0; n <= 3; n++) {
                int[][] places = {{n}, {n, 0, 0}, {0, n, 0}, {0, 0, n}, {0, 0, 0, 0, 0, 0, 0, n}};
                for (int[] hurt : places) {
                    int many = a;
                    if (n > a) {
                        TWINS.refused("27: " + n + " for " + a, () -> told(hurt), x -> x.waits(many, 99), -20, Twins.NO_ONE);
                        TWINS.refused("27: BAD is ahead of NO", () -> told(hurt), x -> x.waits(many, 100), -10, Twins.BAD_ONE);
                    } else {
                        TWINS.asks("27: " + n + " for " + a, () -> told(hurt), x -> x.waits(many, 1), 0);
                    }
                }
            }
        }
    }

    // "a of them (1 .. 3)", "for m (1 .. 99) minutes"; "BAD: -10"
    private static void promise27Refused() {
        for (State s : State.values()) {
            TWINS.beyond("27: waits, a", s, 1, 3, -10, (x, v) -> x.waits(v, 1));
            TWINS.beyond("27: waits, m", s, 1, 99, -10, (x, v) -> x.waits(3, v));
            TWINS.beyond("27: waits, m, with one", s, 1, 99, -10, (x, v) -> x.waits(1, v));
            TWINS.refused("27: both are wrong, counted once", s, x -> x.waits(0, 0), -10, Twins.BAD_ONE);
            TWINS.asks("27: waits(3, 1)", s, x -> x.waits(3, 1));
            TWINS.asks("27: waits(3, 99)", s, x -> x.waits(3, 99));
        }
        TWINS.refused("27: 3 hurt, 1 ambulance", State.SMALLEST, x -> x.waits(1, 1), -20, Twins.NO_ONE);
        TWINS.refused("27: 3 hurt, 2 ambulances", State.FULLEST, x -> x.waits(2, 99), -20, Twins.NO_ONE);
    }

    /** One of a pace in one row: a slider up to 9, a tumbler beyond. */
    private static CheeseHill atPace(int pace) {
        CheeseHill x = new CheeseHill();
        x.hill(1, 1);
        x.put(0, 0, 0, pace > 9 ? pace - 2 : pace);
        x.runner(pace > 9 ? 2 : 1, 0, 0);
        return x;
    }

    // "SEED (0 .. 999999) for n RUNS (0 .. 9)"; "less than his new PACE: he falls"
    private static void promise28Seeds() {
        // drawn from 0: 0, 28, 28; from 1: 38, 38, 33, 35, 11, 27, 10, 19, 12, 6; from 999998: 10; from 999999: 8
        int[][] due = {{0, 0, 1}, {0, 1, 0}, {999999, 8, 1}, {999999, 9, 0}, {999998, 10, 1}, {999998, 11, 0}};
        for (int[] d : due) {
            DUE.is("28: seed " + d[0] + ", pace " + d[1], atPace(d[1]).drawn(d[0], 1), d[2]);
            DUE.is("28: no run, seed " + d[0], atPace(d[1]).drawn(d[0], 0), 1);
        }
        for (int n = 0; n <= 9; n++) {
            DUE.is("28: pace 0 never falls", atPace(0).drawn(0, n), 1);
            DUE.is("28: pace 7, the tenth draw would be 6", atPace(7).drawn(1, n), 1);
            DUE.is("28: pace 10, the seventh draw is 10", atPace(10).drawn(1, n), 1);
            DUE.is("28: pace 11", atPace(11).drawn(1, n), n < 7 ? 1 : 0);
        }
        for (int n = 0; n <= 9; n++) {
            DUE.is("28: nobody", new CheeseHill().drawn(0, n), 0);
        }
        CheeseHill six = oneCell(0, 6);
        DUE.is("28: six, no run", six.drawn(0, 0), 6);
        DUE.is("28: six of pace 0, nine runs", six.drawn(999999, 9), 6);
    }

    // "each RUNNER who has not fallen yet, in order, for each CELL of his way in order, till he falls"
    private static void promise28WhoDraws() {
        CheeseHill x = new CheeseHill();
        x.hill(1, 2);
        x.put(0, 0, 0, 9);
        x.put(0, 0, 1, 8);
        x.runner(2, 0, 0);
        x.runner(0, 1, 0);
        // 11 and 4, drawn from 3: 27, 27; 5: he falls, 32; then the other alone: 22, 36, 13, 23, 32, 7, 13
        int[] due = {2, 2, 1, 1, 1, 1, 1, 1, 1, 1};
        for (int n = 0; n <= 9; n++) {
            DUE.is("28: who has fallen draws no more, " + n, x.drawn(3, n), due[n]);
        }
        CheeseHill turned = new CheeseHill();
        turned.hill(1, 6);
        for (int i = 0; i < 6; i++) {
            turned.put(0, 0, i, i == 5 ? 9 : 0);
            turned.runner(i == 5 ? 2 : 0, i, 0);
        }
        // five of pace 0, the sixth of 11: the sixth of 27, 27, 5, 32, 22, 36, the twelfth is 6
        DUE.is("28: the last one, one run", turned.drawn(3, 1), 6);
        DUE.is("28: the last one, two runs", turned.drawn(3, 2), 5);
        CheeseHill two = new CheeseHill();
        two.hill(2, 1);
        two.put(0, 0, 0, 9);
        two.put(0, 1, 0, 9);
        two.runner(1, 0, 0);
        // 9 and 18, drawn from 2: 28, 17
        DUE.is("28: in the second cell by its own pace", two.drawn(2, 1), 0);
        two.put(0, 1, 0, 8);
        DUE.is("28: 17 is not less than 17", two.drawn(2, 1), 1);
        two.put(0, 0, 0, 0);
        two.put(0, 1, 0, 0);
        two.runner(1, 0, 0);
        DUE.is("28: the hill stays as it is between its runs", two.drawn(0, 9), 2);
        DUE.is("28: nothing is worn", two.at(0, 0, 0), 0);
    }

    private static void promise28Refused() {
        for (State s : State.values()) {
            TWINS.beyond("28: drawn, SEED", s, 0, 999999, (x, v) -> x.drawn(v, 0));
            TWINS.beyond("28: drawn, SEED, nine runs", s, 0, 999999, (x, v) -> x.drawn(v, 9));
            TWINS.beyond("28: drawn, n", s, 0, 9, (x, v) -> x.drawn(0, v));
            TWINS.bad("28: both are wrong, counted once", s, x -> x.drawn(-1, -1));
            TWINS.asks("28: drawn(0, 0)", s, x -> x.drawn(0, 0), s.runners);
            TWINS.asks("28: drawn(999999, 9)", s, x -> x.drawn(999999, 9));
        }
    }
}
