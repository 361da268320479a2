import java.util.Random;

/** Long runs of calls by a seed, on the class and on the plain model side by side: every answer must be the same. */
public final class ModelTest {
    private static final Due DUE = new Due();
    private static Random random;

    public static void main(String[] args) {
        for (int run = 0; run < 1500; run++) {
            random = new Random(run);
            oneRun(run);
        }
        DUE.end("ModelTest");
    }

    private static void oneRun(int run) {
        CheeseHill x = new CheeseHill();
        Model m = new Model();
        int steep = random.nextInt(3);
        for (int call = 0; call < 250; call++) {
            step(run, call, x, m, steep);
        }
        DUE.is(run + ": digest()", x.digest(), m.digest());
        for (int k = 0; k <= 2; k++) {
            DUE.is(run + ": status(" + k + ")", x.status(k), m.status(k));
        }
    }

    /** Mostly within 0 .. most - 1, now and then just beyond, rarely far beyond. */
    private static int about(int most) {
        int dice = random.nextInt(400);
        if (dice == 0) return random.nextInt();
        if (dice == 1) return Integer.MIN_VALUE;
        if (dice == 2) return Integer.MAX_VALUE;
        if (dice <= 5) return -1;
        if (dice <= 8) return most;
        return random.nextInt(Math.max(1, most));
    }

    private static void step(int run, int call, CheeseHill x, Model m, int steep) {
        String at = run + "." + call + ": ";
        int h = m.count(0);
        int w = m.count(1);
        int n = m.count(2);
        int a, b, c, d;
        switch (random.nextInt(42)) {
            case 0:
                if (random.nextInt(6) != 0) break;
                a = random.nextInt(4) == 0 ? about(9) : 1 + random.nextInt(8); b = random.nextInt(4) == 0 ? about(7) : 1 + random.nextInt(6);
                DUE.is(at + "hill(" + a + ", " + b + ")", x.hill(a, b), m.hill(a, b)); break;
            case 1: case 2: case 3: case 4: case 5: case 6:
                a = about(2); b = about(h); c = about(w); d = a == 1 ? about(4) : steep == 0 ? about(10) : steep == 1 ? about(4) : 9 - about(3);
                DUE.is(at + "put(" + a + ", " + b + ", " + c + ", " + d + ")", x.put(a, b, c, d), m.put(a, b, c, d)); break;
            case 7:
                a = about(2); b = about(h); c = about(w);
                DUE.is(at + "at(" + a + ", " + b + ", " + c + ")", x.at(a, b, c), m.at(a, b, c)); break;
            case 8: case 9: case 10:
                a = about(5); b = about(w); c = random.nextBoolean() ? about(100) : about(20);
                DUE.is(at + "runner(" + a + ", " + b + ", " + c + ")", x.runner(a, b, c), m.runner(a, b, c)); break;
            case 11: case 12: case 13: case 14:
                a = about(n); b = about(h); c = about(3);
                DUE.is(at + "line(" + a + ", " + b + ", " + c + ")", x.line(a, b, c), m.line(a, b, c)); break;
            case 15: readSome(at, x, m); break;
            case 16:
                long v = random.nextLong(); a = about(9);
                DUE.is(at + "type(" + v + ", " + a + ")", x.type(v, a), m.type(v, a)); break;
            case 17: DUE.is(at + "read()", x.read(), m.read()); break;
            case 18:
                a = about(n); b = about(h); c = about(4);
                DUE.is(at + "goes(" + a + ", " + b + ", " + c + ")", x.goes(a, b, c), m.goes(a, b, c)); break;
            case 19:
                a = about(n); b = about(3);
                DUE.is(at + "down(" + a + ", " + b + ")", x.down(a, b), m.down(a, b)); break;
            case 20:
                a = about(n); b = about(21); c = about(h + 1) - 1;
                DUE.is(at + "best(" + a + ", " + b + ", " + c + ")", x.best(a, b, c), m.best(a, b, c)); break;
            case 21:
                a = about(n); b = about(21);
                DUE.is(at + "fall(" + a + ", " + b + ")", x.fall(a, b), m.fall(a, b)); break;
            case 22: a = about(7); DUE.is(at + "place(" + a + ")", x.place(a), m.place(a)); break;
            case 23: DUE.is(at + "clashes()", x.clashes(), m.clashes()); break;
            case 24: if (random.nextInt(4) == 0) DUE.is(at + "apart()", x.apart(), m.apart()); break;
            case 25: a = about(n); b = about(1000); DUE.is(at + "began(" + a + ", " + b + ")", x.began(a, b), m.began(a, b)); break;
            case 26: a = about(w); b = about(w); DUE.is(at + "cheese(" + a + ", " + b + ")", x.cheese(a, b), m.cheese(a, b)); break;
            case 27: a = about(w); b = about(101); DUE.is(at + "fence(" + a + ", " + b + ")", x.fence(a, b), m.fence(a, b)); break;
            case 28: a = about(n); DUE.is(at + "feet(" + a + ")", x.feet(a), m.feet(a)); break;
            case 29: DUE.is(at + "catchers()", x.catchers(), m.catchers()); break;
            case 30: DUE.is(at + "bale()", x.bale(), m.bale()); break;
            case 31: case 32: DUE.is(at + "run()", x.run(), m.run()); break;
            case 33: DUE.is(at + "undo()", x.undo(), m.undo()); break;
            case 34: case 35: a = about(4); if (random.nextInt(3) > 0) a = Math.min(a, 1); DUE.is(at + "hurt(" + a + ")", x.hurt(a), m.hurt(a)); break;
            case 36: if (random.nextInt(3) == 0) DUE.is(at + "heal()", x.heal(), m.heal()); break;
            case 37: a = 1 + about(3); b = random.nextBoolean() ? about(100) : 1 + about(6); DUE.is(at + "waits(" + a + ", " + b + ")", x.waits(a, b), m.waits(a, b)); break;
            case 38: a = about(1000000); b = random.nextBoolean() ? about(3) : about(10); DUE.is(at + "drawn(" + a + ", " + b + ")", x.drawn(a, b), m.drawn(a, b)); break;
            case 39: a = about(2); DUE.is(at + "part(" + a + ")", x.part(a), m.part(a)); break;
            case 40:
                a = about(2);
                if (random.nextBoolean()) DUE.is(at + "image(" + a + ")", x.image(a), m.image(a));
                else if (random.nextInt(3) == 0) DUE.is(at + "from(" + a + ")", x.from(a), m.from(a));
                break;
            default:
                a = about(6); DUE.is(at + "count(" + a + ")", x.count(a), m.count(a));
                a = about(3); DUE.is(at + "status(" + a + ")", x.status(a), m.status(a));
                DUE.is(at + "digest()", x.digest(), m.digest()); break;
        }
    }

    /** A text that is nearly right, with a byte changed, dropped or added in half of them. */
    private static void readSome(String at, CheeseHill x, Model m) {
        int h = 1 + random.nextInt(8);
        int w = 1 + random.nextInt(6);
        int n = 0;
        StringBuilder t = new StringBuilder("hill " + h + " " + w + ";");
        int items = random.nextInt(18);
        for (int k = 0; k < items; k++) {
            String blank = random.nextInt(8) == 0 ? "  " : " ";
            switch (random.nextInt(4)) {
                case 0: t.append("slope " + random.nextInt(h) + blank + random.nextInt(w) + " " + random.nextInt(10) + ";"); break;
                case 1: t.append("ground " + random.nextInt(h) + " " + random.nextInt(w) + blank + random.nextInt(4) + ";"); break;
                case 2: t.append("runner " + random.nextInt(5) + " " + random.nextInt(w) + " " + random.nextInt(100) + blank + ";"); n++; break;
                default: if (n > 0) t.append(blank + "line " + random.nextInt(n) + " " + random.nextInt(h) + " " + random.nextInt(3) + ";"); break;
            }
        }
        if (random.nextBoolean()) {
            int where = random.nextInt(t.length());
            String signs = " ;0123456789abehilnoprsu\t\n{`:/A\u00e9";
            char sign = signs.charAt(random.nextInt(signs.length()));
            switch (random.nextInt(4)) {
                case 0: t.setCharAt(where, sign); break;
                case 1: t.insert(where, sign); break;
                case 2: t.deleteCharAt(where); break;
                default: t.setLength(where); break;
            }
        }
        DUE.is(at + "clear()", x.clear(), m.clear());
        String text = t.toString();
        for (int k = 0; k < text.length(); ) {
            int many = Math.min(text.length() - k, 1 + random.nextInt(8));
            long v = random.nextLong();
            for (char c : text.substring(k, k + many).toCharArray()) v = v << 8 | c;
            DUE.is(at + "type(" + v + ", " + many + ")", x.type(v, many), m.type(v, many));
            k += many;
        }
        DUE.is(at + "read() of " + text, x.read(), m.read());
        DUE.is(at + "digest()", x.digest(), m.digest());
    }
}
