import java.util.ArrayList;
import java.util.List;

/** Two objects made alike, of which one is called: all that differs afterwards is what the call has done. */
final class Twins {
    static final int BAD_ONE = 0;
    static final int NO_ONE = 1;
    static final int FULL_ONE = 2;

    interface Maker {
        CheeseHill make();
    }

    interface Call {
        long on(CheeseHill x);
    }

    interface CallWith {
        long on(CheeseHill x, int v);
    }

    private final Due due;

    Twins(Due due) {
        this.due = due;
    }

    /** The answer told, counted once under its reason, and nothing else has changed. */
    void refused(String told, Maker maker, Call call, long answer, int reason) {
        CheeseHill called = maker.make();
        due.is(told + in(maker), call.on(called), answer);
        List<Long> now = look(called);
        List<Long> was = look(maker.make());
        was.set(reason, was.get(reason) + 1);
        differences(told + in(maker) + ": refused", now, was);
    }

    void bad(String told, Maker maker, Call call) {
        refused(told, maker, call, -2, BAD_ONE);
    }

    void no(String told, Maker maker, Call call) {
        refused(told, maker, call, -3, NO_ONE);
    }

    void full(String told, Maker maker, Call call) {
        refused(told, maker, call, -4, FULL_ONE);
    }

    /** Refused just below the least and just above the most, and far off, also where the lowest bits alone would do. */
    void beyond(String told, Maker maker, int least, int most, long answer, CallWith call) {
        int[] wrong = {least - 1, most + 1, Integer.MIN_VALUE, Integer.MIN_VALUE + least, Integer.MAX_VALUE, least - 256,
            most + 256, least - 65536, most + 65536, -least - 2, -most - 2};
        for (int v : wrong) {
            if (v < least || v > most) {
                refused(told + " of " + v, maker, x -> call.on(x, v), answer, BAD_ONE);
            }
        }
    }

    void beyond(String told, Maker maker, int least, int most, CallWith call) {
        beyond(told, maker, least, most, -2, call);
    }

    /** A call that but asks: nothing has changed, the status neither. */
    void asks(String told, Maker maker, Call call, long answer) {
        CheeseHill called = maker.make();
        due.is(told + in(maker), call.on(called), answer);
        alike(told + in(maker) + ": asked", called, maker.make());
    }

    /** Whatever it answers, nothing has changed. */
    void asks(String told, Maker maker, Call call) {
        asks(told, maker, call, call.on(maker.make()));
    }

    /** Both answer alike whatever is asked; spends both. */
    void alike(String told, CheeseHill one, CheeseHill other) {
        differences(told, look(one), look(other));
    }

    private static String in(Maker maker) {
        return maker instanceof State ? " [" + maker + "]" : "";
    }

    private void differences(String told, List<Long> now, List<Long> due) {
        this.due.is(told + ": as many answers", now.size(), due.size());
        for (int k = 0; k < now.size() && k < due.size(); k++) {
            this.due.is(told + ": look " + k, now.get(k), due.get(k));
        }
    }

    /** STATUS first, then all that can be seen in any way; spends the object, as undoing and reading change it. */
    private static List<Long> look(CheeseHill x) {
        List<Long> seen = new ArrayList<>();
        for (int reason = 0; reason <= 2; reason++) {
            seen.add((long) x.status(reason));
        }
        seen.add(x.part(0));
        seen.add(x.part(1));
        undoAll(x, seen);
        // The text as it is, and with an end put to its last item.
        seen.add((long) x.read());
        seen.add(x.digest());
        seen.add((long) x.type(';', 1));
        seen.add((long) x.read());
        seen.add(x.digest());
        for (int i = 0; i <= 1; i++) {
            seen.add((long) x.from(i));
            undoAll(x, seen);
        }
        return seen;
    }

    private static void undoAll(CheeseHill x, List<Long> seen) {
        seen.add(x.digest());
        for (int k = 0; k < 7; k++) {
            seen.add((long) x.undo());
            seen.add(x.digest());
        }
    }
}
