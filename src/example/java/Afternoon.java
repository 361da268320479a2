/** An afternoon at the hill: the example of README.md. */
public final class Afternoon {
    public static void main(String[] args) {
        CheeseHill x = new CheeseHill();

        // a hill, told by a text (hill, put, runner and line do the same call by call)
        type(x, "hill 4 3; slope 0 1 8; ground 1 0 1; ground 2 1 3;");
        type(x, "runner 0 1 0; runner 1 1 5; runner 2 0 0; line 0 1 1;");
        say("items read", x.read());
        say("ground in row 2, lane 1", x.at(1, 2, 1));

        // runners
        say("runner 0 is down at", x.down(0, 0));
        say("runner 0's lane in row 2", x.goes(0, 2, 0));
        say("the best that runner 1 can do, harm counted 5 times", x.best(1, 5, CheeseHill.NONE));
        say("what he does for it in row 1", x.best(1, 5, 1));
        say("the first one down", x.place(0));
        say("pairs that clash", x.clashes());

        // the cheese; a chance is kept as the fraction, part(0) by part(1)
        x.cheese(0, 1);
        System.out.println("the cheese from lane 0 comes to lane 1 by " + x.part(0) + "/" + x.part(1));
        int fence = x.fence(0, 75);
        System.out.println("a fence for 75 of 100: lanes " + fence / 10 + " to " + fence % 10);

        // runs wear the hill, and are undone
        say("the first one of a run", x.run());
        say("slope in row 0, lane 1 behind it", x.at(0, 0, 1));
        say("undone", x.undo());
        say("slope in row 0, lane 1 now", x.at(0, 0, 1));

        // what is refused changes nothing, and is counted
        say("a runner of kind 7", x.runner(7, 0, 0));
        say("refused as BAD", x.status(0));
    }

    private static void say(String what, int answer) {
        System.out.println(what + ": " + answer);
    }

    /** Up to eight bytes go in by one call, the first one highest. */
    private static void type(CheeseHill x, String text) {
        for (int k = 0; k < text.length(); k += 8) {
            int n = Math.min(8, text.length() - k);
            long v = 0;
            for (int b = 0; b < n; b++) {
                v = v << 8 | text.charAt(k + b);
            }
            x.type(v, n);
        }
    }
}
