import java.lang.reflect.Method;
import java.lang.reflect.Modifier;

/**
 * Every call with every mixture of edges and of numbers far off, in several states: none may throw, and whatever is
 * refused changes nothing but the status, by one.
 */
public final class WildTest {
    private static final Due DUE = new Due();
    private static final int[] EDGES = {Integer.MIN_VALUE, -1000, -2, -1, 0, 1, 2, 3, 4, 5, 6, 7, 8, 9, 10, 20, 21, 99, 100,
        101, 999, 1000, 999999, 1000000, 1 << 30, Integer.MAX_VALUE};

    public static void main(String[] args) throws Exception {
        for (int state = 0; state < 5; state++) {
            for (Method m : CheeseHill.class.getDeclaredMethods()) {
                if (Modifier.isPublic(m.getModifiers())) {
                    mixtures(state, m);
                }
            }
        }
        DUE.end("WildTest");
    }

    private static CheeseHill made(int state) {
        CheeseHill x = new CheeseHill();
        if (state == 1) {
            x.hill(1, 1);
            x.runner(2, 0, 99);
            x.hurt(1);
        } else if (state == 2) {
            x.hill(8, 6);
            for (int r = 0; r < 8; r++) {
                for (int l = 0; l < 6; l++) {
                    x.put(0, r, l, 9);
                    x.put(1, r, l, (r + l) % 4);
                }
            }
            for (int i = 0; i < 6; i++) {
                x.runner(i % 5, i, 10 * i);
                x.line(i, 3, i % 3);
            }
            for (int k = 0; k < 8; k++) {
                x.run();
                x.hurt(k % 4);
            }
            x.image(0);
            x.image(1);
            for (int k = 0; k < 31; k++) {
                x.type(k, 8);
            }
        } else if (state == 3) {
            Due.type(x, "hill 3 2;runner 0 1 5;runner 2 1 5;line 1 1 1;ground 2 0 1;");
            x.read();
            x.image(1);
        } else if (state == 4) {
            x.runner(4, 2, 0);
            x.runner(4, 2, 0);
            x.run();
            x.hill(4, 4);
            x.image(0);
            x.hill(2, 6);
            x.from(0);
        }
        return x;
    }

    private static void mixtures(int state, Method m) throws Exception {
        CheeseHill x = made(state);
        int many = m.getParameterCount();
        int mixtures = (int) Math.pow(EDGES.length, many);
        int step = mixtures > 20000 ? 37 : 1;
        for (int n = 0; n < mixtures; n += step) {
            // An object answers for 512 calls: some 160 make it, 9 try each mixture.
            if (n / step % 30 == 0) {
                x = made(state);
            }
            Object[] arguments = new Object[many];
            StringBuilder told = new StringBuilder(m.getName() + "(");
            int rest = n;
            for (int k = 0; k < many; k++) {
                int v = EDGES[rest % EDGES.length];
                rest /= EDGES.length;
                if (m.getParameterTypes()[k] == long.class) {
                    arguments[k] = (long) v << 31 ^ v;
                } else {
                    arguments[k] = v;
                }
                told.append(k == 0 ? "" : ", ").append(v);
            }
            oneCall(state, x, m, arguments, told.append(")").toString());
        }
    }

    private static void oneCall(int state, CheeseHill x, Method m, Object[] arguments, String told) throws Exception {
        int before = x.status(0) + x.status(1) + x.status(2);
        long was = x.digest();
        m.invoke(x, arguments);
        int more = x.status(0) + x.status(1) + x.status(2) - before;
        DUE.is("state " + state + ": " + told + ": refused once at most", more == 0 || more == 1 ? 1 : 0, 1);
        if (more == 1) {
            DUE.is("state " + state + ": " + told + ": refused, and changed something", x.digest(), was);
        }
    }
}
