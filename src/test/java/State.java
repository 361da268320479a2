/** States of an object that edges are tried in; each is made anew by the same calls every time. */
enum State implements Twins.Maker {
    /** As the constructor leaves it. */
    FRESH(6, 5, 0),
    /** The smallest hill, with one runner. */
    SMALLEST(1, 1, 1),
    /** Some of everything, nothing at its edge; the text lacks its last sign. */
    MIDDLING(3, 4, 3),
    /** Everything at its edge: rows, lanes, runners, runs of hurt, what may be undone, bytes, images. */
    FULLEST(8, 6, 6);

    final int rows;
    final int lanes;
    final int runners;

    State(int rows, int lanes, int runners) {
        this.rows = rows;
        this.lanes = lanes;
        this.runners = runners;
    }

    boolean keepsImage(int i) {
        return this == FULLEST || (this == SMALLEST && i == 1) || (this == MIDDLING && i == 0);
    }

    @Override
    public CheeseHill make() {
        CheeseHill x = new CheeseHill();
        if (this == SMALLEST) {
            x.hill(1, 1);
            x.runner(1, 0, 99);
            x.put(1, 0, 0, 1);
            x.image(1);
            x.hurt(3);
            Due.type(x, "hill 1 1;");
        } else if (this == MIDDLING) {
            makeMiddling(x);
        } else if (this == FULLEST) {
            makeFullest(x);
        }
        return x;
    }

    private static void makeMiddling(CheeseHill x) {
        x.hill(0, 0);
        x.undo();
        x.hill(2, 2);
        x.runner(0, 1, 0);
        x.runner(0, 1, 0);
        x.run();
        x.image(0);
        x.hill(3, 4);
        x.put(0, 0, 1, 7);
        x.put(0, 2, 3, 5);
        x.put(1, 1, 1, 1);
        x.put(1, 1, 2, 2);
        x.put(1, 2, 2, 3);
        x.runner(1, 1, 12);
        x.runner(4, 1, 40);
        x.runner(3, 3, 5);
        x.line(0, 1, 2);
        x.line(1, 0, 1);
        x.run();
        x.put(0, 1, 3, 6);
        x.run();
        x.hurt(1);
        x.hurt(3);
        x.cheese(1, 2);
        Due.type(x, "hill 2 3;slope 1 2 8;runner 2 1 45;line 0 1 2");
    }

    private static void makeFullest(CheeseHill x) {
        x.hill(8, 6);
        for (int r = 0; r < 8; r++) {
            x.put(0, r, r % 6, r + 1);
            x.put(1, r, 5 - r % 6, r % 4);
        }
        for (int i = 0; i < 6; i++) {
            x.runner(i % 5, 5 - i / 2, 99 - i);
            x.line(i, i, i % 3);
            x.line(i, 7, 2 - i % 3);
        }
        x.runner(0, 0, 0);
        for (int k = 0; k < 8; k++) {
            x.hurt(k % 4);
            x.run();
            if (k == 5) {
                x.image(0);
            }
        }
        x.hurt(0);
        x.image(1);
        x.feet(3);
        StringBuilder text = new StringBuilder("hill 8 6;runner 1 5 99;");
        while (text.length() < 240) {
            text.append("line 0 ").append(text.length() % 8).append(" 2;");
        }
        Due.type(x, text.append(" ".repeat(250 - text.length())).toString());
        x.type(0, 1);
    }
}
