/** Promises 23 to 28: runs that wear the hill, undone; ambulances; afternoons by a seed. */
public final class RunsTest {
    private static final Due DUE = new Due();

    public static void main(String[] args) {
        promise23Run();
        promise23Wear();
        promise24Undo();
        promise24SixAtMost();
        promise25Hurt();
        promise26Heal();
        promise27Waits();
        promise27Refused();
        promise28Drawn();
        DUE.end("RunsTest");
    }

    private static void promise23Run() {
        CheeseHill x = new CheeseHill();
        DUE.is("23: nobody", x.run(), CheeseHill.NO);
        DUE.is("23: refused as NO", x.status(1), 1);
        DUE.is("23: nothing to undo", x.count(4), 0);
        x.runner(0, 0, 5);
        x.runner(0, 0, 4);
        x.runner(0, 1, 4);
        DUE.is("23: first, the lesser of like ones", x.run(), 1);
        DUE.is("23: to undo", x.count(4), 1);
        // one goes through cells that the run makes steeper: who is first is told of the run, not of the worn hill
        x.hill(1, 2);
        x.runner(0, 1, 0);
        x.runner(0, 0, 1);
        x.runner(0, 0, 1);
        DUE.is("23: first of the run", x.run(), 0);
        DUE.is("23: first of the next one", x.run(), 0);
        DUE.is("23: worn twice", x.at(0, 0, 0), 5);
        DUE.is("23: down 28 and 1 against 29", x.place(0), 0);
        DUE.is("23: first of the third one, though the worn hill has another", x.run(), 0);
        DUE.is("23: 27 and 1 at slope 6", x.place(0), 1);
    }

    private static void promise23Wear() {
        CheeseHill x = new CheeseHill();
        x.hill(2, 3);
        x.runner(0, 0, 0);
        x.runner(1, 0, 99);
        x.line(1, 0, 2);
        x.runner(2, 2, 0);
        x.run();
        DUE.is("23: two went, far apart in time", x.at(0, 0, 0), 4);
        DUE.is("23: one went, row 0", x.at(0, 0, 2), 3);
        DUE.is("23: one went, row 1", x.at(0, 1, 0), 3);
        DUE.is("23: none went", x.at(0, 0, 1), 3);
        x.runner(0, 0, 0);
        x.run();
        DUE.is("23: three went: 1 more", x.at(0, 0, 0), 5);
        DUE.is("23: two went in row 1", x.at(0, 1, 0), 4);
        x.put(0, 0, 0, 9);
        x.run();
        DUE.is("23: 9 at most", x.at(0, 0, 0), 9);
        DUE.is("23: grounds stay", x.at(1, 0, 0), 0);
        DUE.is("23: three to undo", x.count(4), 3);
    }

    private static void promise24Undo() {
        CheeseHill x = new CheeseHill();
        DUE.is("24: none", x.undo(), CheeseHill.NO);
        DUE.is("24: refused as NO", x.status(1), 1);
        x.runner(0, 2, 0);
        x.runner(0, 2, 0);
        x.put(0, 3, 3, 7);
        x.run();
        x.put(0, 3, 3, 1);
        x.put(1, 3, 3, 2);
        x.hurt(1);
        x.runner(0, 0, 0);
        DUE.is("24: undo", x.undo(), 1);
        DUE.is("24: what was worn", x.at(0, 0, 2), 3);
        DUE.is("24: slopes are as ahead of the run, put ones too", x.at(0, 3, 3), 7);
        DUE.is("24: grounds stay", x.at(1, 3, 3), 2);
        DUE.is("24: runners stay", x.count(2), 3);
        DUE.is("24: hurt stays", x.count(3), 1);
        DUE.is("24: none are left", x.count(4), 0);
        DUE.is("24: none again", x.undo(), CheeseHill.NO);
        x.hill(1, 1);
        x.runner(0, 0, 0);
        x.run();
        DUE.is("24: a run that wears nothing may be undone", x.undo(), 1);
    }

    private static void promise24SixAtMost() {
        CheeseHill x = new CheeseHill();
        x.hill(1, 1);
        x.put(0, 0, 0, 0);
        x.runner(0, 0, 0);
        x.runner(0, 0, 0);
        for (int k = 1; k <= 8; k++) {
            x.run();
            DUE.is("24: to undo behind run " + k, x.count(4), Math.min(k, 6));
        }
        DUE.is("24: slope 8", x.at(0, 0, 0), 8);
        for (int k = 7; k >= 2; k--) {
            DUE.is("24: undo", x.undo(), 1);
            DUE.is("24: slope", x.at(0, 0, 0), k);
        }
        DUE.is("24: the first two runs can not be undone", x.undo(), CheeseHill.NO);
        DUE.is("24: slope 2", x.at(0, 0, 0), 2);
    }

    private static void promise25Hurt() {
        CheeseHill x = new CheeseHill();
        DUE.is("25: hurt(4)", x.hurt(4), CheeseHill.BAD);
        DUE.is("25: hurt(-1)", x.hurt(-1), CheeseHill.BAD);
        for (int k = 1; k <= 8; k++) {
            DUE.is("25: hurt", x.hurt(k % 4), k);
        }
        DUE.is("25: FULL", x.hurt(0), CheeseHill.FULL);
        DUE.is("25: BAD ahead of FULL", x.hurt(4), CheeseHill.BAD);
        DUE.is("25: runs", x.count(3), 8);
        DUE.is("25: refused as BAD", x.status(0), 3);
        DUE.is("25: refused as FULL", x.status(2), 1);
    }

    private static void promise26Heal() {
        CheeseHill x = new CheeseHill();
        DUE.is("26: none", x.heal(), 0);
        x.hurt(3);
        x.hurt(3);
        DUE.is("26: two", x.heal(), 2);
        DUE.is("26: none are left", x.count(3), 0);
        DUE.is("26: told anew", x.hurt(0), 1);
        DUE.is("26: the old ones are forgotten", x.waits(1, 99), 0);
    }

    private static int waited(int a, int m, int... hurt) {
        CheeseHill x = new CheeseHill();
        for (int n : hurt) {
            x.hurt(n);
        }
        return x.waits(a, m);
    }

    private static void promise27Waits() {
        DUE.is("27: no runs", waited(1, 99), 0);
        DUE.is("27: nobody hurt", waited(1, 99, 0, 0, 0, 0), 0);
        DUE.is("27: all away, nobody hurt in the next", waited(3, 10, 3, 0), 9);
        DUE.is("27: one is there, nobody hurt", waited(3, 10, 2, 0), 0);
        DUE.is("27: one is there, two are needed", waited(3, 5, 2, 2), 4);
        DUE.is("27: back as the next begins", waited(1, 1, 1, 1, 1), 0);
        DUE.is("27: a minute late", waited(1, 2, 1, 1, 1), 2);
        // begins at 0, 1, then 10 for both, of which the second came back at 11
        DUE.is("27: both must be back", waited(2, 10, 1, 1, 2), 9);
        // at 0 one, at 1 one, at 2 three: back at 10, 11, the third is there: begins at 11
        DUE.is("27: three of three", waited(3, 10, 1, 1, 3), 9);
        // the next begins a minute behind the late one: at 12 none is there till 21
        DUE.is("27: and who comes behind", waited(3, 10, 1, 1, 3, 1), 18);
        DUE.is("27: eight runs of one", waited(1, 99, 1, 1, 1, 1, 1, 1, 1, 1), 7 * 98);
    }

    private static void promise27Refused() {
        CheeseHill x = new CheeseHill();
        int[][] wrong = {{0, 1}, {4, 1}, {-1, 1}, {1, 0}, {1, 100}, {1, -1}};
        for (int[] w : wrong) {
            DUE.is("27: waits of a wrong number", x.waits(w[0], w[1]), -10);
        }
        x.hurt(0);
        x.hurt(2);
        x.hurt(0);
        DUE.is("27: more hurt than ambulances", x.waits(1, 5), -20);
        DUE.is("27: BAD ahead of NO", x.waits(1, 0), -10);
        DUE.is("27: as many", x.waits(2, 5), 4);
        DUE.is("27: asked again", x.waits(2, 5), 4);
        DUE.is("27: refused as BAD", x.status(0), wrong.length + 1);
        DUE.is("27: refused as NO", x.status(1), 1);
    }

    private static void promise28Drawn() {
        CheeseHill x = new CheeseHill();
        DUE.is("28: nobody", x.drawn(0, 9), 0);
        x.hill(1, 1);
        x.put(0, 0, 0, 9);
        x.runner(1, 0, 0);
        x.runner(0, 0, 0);
        x.runner(2, 0, 0);
        // paces 9, 4, 11; drawn from seed 0: 0, 28, 28, 37, 18, 7, 5, 21, 2
        int[] left = {3, 2, 2, 1, 1, 0, 0, 0, 0, 0};
        for (int n = 0; n < left.length; n++) {
            DUE.is("28: drawn(0, " + n + ")", x.drawn(0, n), left[n]);
        }
        CheeseHill y = new CheeseHill();
        y.hill(1, 1);
        y.put(0, 0, 0, 0);
        y.runner(0, 0, 0);
        DUE.is("28: 0 is not less than pace 0", y.drawn(0, 1), 1);
        y.put(0, 0, 0, 2);
        DUE.is("28: 0 is less than pace 1", y.drawn(0, 1), 0);
        y.hill(2, 1);
        y.put(0, 0, 0, 9);
        y.put(0, 1, 0, 9);
        y.runner(0, 0, 0);
        y.runner(0, 0, 0);
        // paces 4 and 8: one falls at once and draws no more; the other draws 28, 28, 37, 18, 7, 5
        DUE.is("28: till he falls, 2", y.drawn(0, 2), 1);
        DUE.is("28: till he falls, 3", y.drawn(0, 3), 0);
        DUE.is("28: the hill is not worn", y.at(0, 0, 0), 9);
        DUE.is("28: nothing to undo", y.count(4), 0);
        DUE.is("28: the greatest seed, no run", y.drawn(999999, 0), 2);
        int[][] wrong = {{1000000, 0}, {-1, 0}, {0, 10}, {0, -1}};
        for (int[] w : wrong) {
            DUE.is("28: drawn of a wrong number", y.drawn(w[0], w[1]), CheeseHill.BAD);
        }
        DUE.is("28: refused", y.status(0), wrong.length);
    }
}
