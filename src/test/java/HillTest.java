/** Promises 1 to 9: a new object, and the calls about a hill. */
public final class HillTest {
    private static final Due DUE = new Due();

    public static void main(String[] args) {
        promise1NewObject();
        promise2Hill();
        promise3Put();
        promise4At();
        promise5Runner();
        promise6Line();
        promise7Type();
        promise8Clear();
        promise9ReadTakesAllButWhatStays();
        promise9Items();
        promise9Faults();
        promise9AllStaysAtAFault();
        DUE.end("HillTest");
    }

    private static void promise1NewObject() {
        CheeseHill x = new CheeseHill();
        long[] counts = {6, 5, 0, 0, 0, 0};
        for (int k = 0; k < counts.length; k++) {
            DUE.is("1: count(" + k + ")", x.count(k), counts[k]);
        }
        for (int r = 0; r < 6; r++) {
            for (int l = 0; l < 5; l++) {
                DUE.is("1: slope", x.at(0, r, l), 3);
                DUE.is("1: ground", x.at(1, r, l), 0);
            }
        }
        DUE.is("1: part(0)", x.part(0), 0);
        DUE.is("1: part(1)", x.part(1), 1);
        DUE.is("1: from(0)", x.from(0), CheeseHill.NO);
        DUE.is("1: from(1)", x.from(1), CheeseHill.NO);
        DUE.is("1: NONE", CheeseHill.NONE, -1);
        DUE.is("1: BAD", CheeseHill.BAD, -2);
        DUE.is("1: NO", CheeseHill.NO, -3);
        DUE.is("1: FULL", CheeseHill.FULL, -4);
    }

    private static void promise2Hill() {
        CheeseHill x = new CheeseHill();
        x.put(0, 1, 1, 9);
        x.put(1, 1, 1, 2);
        x.runner(0, 1, 0);
        x.run();
        x.hurt(1);
        x.image(0);
        Due.type(x, "hill");
        x.cheese(0, 0);
        DUE.is("2: hill(8, 6)", x.hill(8, 6), 1);
        long[] counts = {8, 6, 0, 0, 0, 4};
        for (int k = 0; k < counts.length; k++) {
            DUE.is("2: count(" + k + ")", x.count(k), counts[k]);
        }
        DUE.is("2: slope as at first", x.at(0, 1, 1), 3);
        DUE.is("2: ground as at first", x.at(1, 1, 1), 0);
        DUE.is("2: the last cell", x.at(0, 7, 5), 3);
        DUE.is("2: the fraction stays", x.part(0), 1);
        DUE.is("2: nothing to undo", x.undo(), CheeseHill.NO);
        DUE.is("2: the image stays", x.from(0), 1);
        DUE.is("2: slope of the image", x.at(0, 1, 1), 9);
        int[][] wrong = {{0, 1}, {9, 1}, {1, 0}, {1, 7}, {-1, 3}, {3, -1}, {Integer.MAX_VALUE, 2}, {2, Integer.MIN_VALUE}};
        for (int[] w : wrong) {
            DUE.is("2: hill(" + w[0] + ", " + w[1] + ")", x.hill(w[0], w[1]), CheeseHill.BAD);
        }
        DUE.is("2: all stays", x.at(0, 1, 1), 9);
        DUE.is("2: refused", x.status(0), wrong.length);
        DUE.is("2: hill(1, 1)", x.hill(1, 1), 1);
        DUE.is("2: runner again", x.runner(0, 0, 0), 0);
        DUE.is("2: his line is new", x.line(0, 0, 2), 0);
        x.hill(1, 1);
        x.runner(0, 0, 0);
        DUE.is("2: a later one's line is new", x.line(0, 0, 0), 0);
    }

    private static void promise3Put() {
        CheeseHill x = new CheeseHill();
        DUE.is("3: put(0, 5, 4, 9)", x.put(0, 5, 4, 9), 3);
        DUE.is("3: put(0, 5, 4, 0)", x.put(0, 5, 4, 0), 9);
        DUE.is("3: put(1, 5, 4, 3)", x.put(1, 5, 4, 3), 0);
        DUE.is("3: put(1, 5, 4, 1)", x.put(1, 5, 4, 1), 3);
        DUE.is("3: slope", x.at(0, 5, 4), 0);
        DUE.is("3: ground", x.at(1, 5, 4), 1);
        DUE.is("3: another cell's slope", x.at(0, 4, 4), 3);
        DUE.is("3: another cell's ground", x.at(1, 5, 3), 0);
        int[][] wrong = {{2, 0, 0, 0}, {-1, 0, 0, 0}, {0, 6, 0, 0}, {0, -1, 0, 0}, {0, 0, 5, 0}, {0, 0, -1, 0},
            {0, 0, 0, 10}, {0, 0, 0, -1}, {1, 0, 0, 4}, {1, 0, 0, -1}, {1, 6, 0, 0}, {1, 0, 5, 0}};
        for (int[] w : wrong) {
            DUE.is("3: put of a wrong number", x.put(w[0], w[1], w[2], w[3]), CheeseHill.BAD);
        }
        DUE.is("3: refused", x.status(0), wrong.length);
    }

    private static void promise4At() {
        CheeseHill x = new CheeseHill();
        x.hill(2, 6);
        x.put(0, 1, 5, 7);
        x.put(1, 1, 5, 2);
        DUE.is("4: at(0, 1, 5)", x.at(0, 1, 5), 7);
        DUE.is("4: at(1, 1, 5)", x.at(1, 1, 5), 2);
        int[][] wrong = {{2, 0, 0}, {-1, 0, 0}, {0, 2, 0}, {0, -1, 0}, {0, 0, 6}, {0, 0, -1}};
        for (int[] w : wrong) {
            DUE.is("4: at of a wrong number", x.at(w[0], w[1], w[2]), CheeseHill.BAD);
        }
        DUE.is("4: refused", x.status(0), wrong.length);
    }

    private static void promise5Runner() {
        CheeseHill x = new CheeseHill();
        int[][] wrong = {{5, 0, 0}, {-1, 0, 0}, {0, 5, 0}, {0, -1, 0}, {0, 0, 100}, {0, 0, -1}};
        for (int[] w : wrong) {
            DUE.is("5: runner of a wrong number", x.runner(w[0], w[1], w[2]), CheeseHill.BAD);
        }
        for (int i = 0; i < 6; i++) {
            DUE.is("5: runner " + i, x.runner(i % 5, 4, 99 - i), i);
        }
        DUE.is("5: start of 0", x.goes(0, 0, 2), 99);
        DUE.is("5: start of 5", x.goes(5, 0, 2), 94);
        DUE.is("5: lane of 5", x.goes(5, 0, 0), 4);
        DUE.is("5: FULL", x.runner(0, 0, 0), CheeseHill.FULL);
        DUE.is("5: BAD ahead of FULL", x.runner(5, 0, 0), CheeseHill.BAD);
        DUE.is("5: count", x.count(2), 6);
        DUE.is("5: refused as FULL", x.status(2), 1);
        DUE.is("5: refused as BAD", x.status(0), wrong.length + 1);
    }

    private static void promise6Line() {
        CheeseHill x = new CheeseHill();
        DUE.is("6: nobody there", x.line(0, 0, 0), CheeseHill.BAD);
        x.runner(0, 2, 0);
        x.runner(0, 2, 0);
        DUE.is("6: line(1, 5, 2)", x.line(1, 5, 2), 0);
        DUE.is("6: line(1, 5, 1)", x.line(1, 5, 1), 2);
        DUE.is("6: line(1, 0, 2)", x.line(1, 0, 2), 0);
        DUE.is("6: another's line", x.line(0, 5, 0), 0);
        DUE.is("6: row 1", x.goes(1, 1, 0), 3);
        DUE.is("6: the foot", x.down(1, 2), 2);
        int[][] wrong = {{2, 0, 0}, {-1, 0, 0}, {0, 6, 0}, {0, -1, 0}, {0, 0, 3}, {0, 0, -1}};
        for (int[] w : wrong) {
            DUE.is("6: line of a wrong number", x.line(w[0], w[1], w[2]), CheeseHill.BAD);
        }
        DUE.is("6: refused", x.status(0), wrong.length + 1);
    }

    private static void promise7Type() {
        CheeseHill x = new CheeseHill();
        DUE.is("7: n = 0", x.type(0, 0), CheeseHill.BAD);
        DUE.is("7: n = 9", x.type(0, 9), CheeseHill.BAD);
        DUE.is("7: n = -1", x.type(0, -1), CheeseHill.BAD);
        // "hill 2 2" behind two bytes that must not come to the text, then ";"
        DUE.is("7: hill", x.type(0x7878L << 40 | 0x68696c6c20L, 5), 5);
        DUE.is("7: 2 2;", x.type(0x3220323bL, 4), 9);
        DUE.is("7: read", x.read(), 1);
        DUE.is("7: rows", x.count(0), 2);
        x.clear();
        for (int k = 1; k <= 31; k++) {
            DUE.is("7: eight more", x.type(-1L, 8), 8 * k);
        }
        DUE.is("7: 3 bytes more than 250", x.type(0, 3), CheeseHill.FULL);
        DUE.is("7: BAD ahead of FULL", x.type(0, 9), CheeseHill.BAD);
        DUE.is("7: nothing came to it", x.count(5), 248);
        DUE.is("7: 250", x.type(0, 2), 250);
        DUE.is("7: 251", x.type(0, 1), CheeseHill.FULL);
        DUE.is("7: refused as FULL", x.status(2), 2);
        DUE.is("7: refused as BAD", x.status(0), 4);
        DUE.is("7: bytes of -1 begin no token", x.read(), -10);
    }

    private static void promise8Clear() {
        CheeseHill x = new CheeseHill();
        DUE.is("8: an empty one", x.clear(), 0);
        x.type(5, 7);
        DUE.is("8: 7 bytes", x.clear(), 7);
        DUE.is("8: none are left", x.count(5), 0);
        DUE.is("8: type anew", x.type(5, 3), 3);
    }

    private static void promise9ReadTakesAllButWhatStays() {
        CheeseHill x = new CheeseHill();
        x.runner(0, 4, 0);
        x.runner(0, 4, 0);
        x.line(0, 0, 1);
        x.put(0, 0, 0, 8);
        x.image(1);
        x.run();
        x.hurt(2);
        x.hurt(9);
        x.feet(0);
        long above = x.part(0);
        Due.type(x, "hill 2 3;ground 0 0 1;runner 4 2 15;");
        DUE.is("9: items", x.read(), 3);
        long[] counts = {2, 3, 1, 0, 0, 36};
        for (int k = 0; k < counts.length; k++) {
            DUE.is("9: count(" + k + ")", x.count(k), counts[k]);
        }
        DUE.is("9: a slope as at first", x.at(0, 0, 0), 3);
        DUE.is("9: a ground", x.at(1, 0, 0), 1);
        DUE.is("9: the runner's start", x.goes(0, 0, 2), 15);
        DUE.is("9: his line", x.line(0, 0, 0), 0);
        DUE.is("9: nothing to undo", x.undo(), CheeseHill.NO);
        DUE.is("9: the fraction stays", x.part(0), above);
        DUE.is("9: status stays", x.status(0), 1);
        DUE.is("9: the image stays", x.from(1), 1);
        DUE.is("9: what it kept", x.at(0, 0, 0), 8);
    }

    private static void promise9Items() {
        String[] texts = {"hill 8 6;", "  hill   08 06 ;  ", "hill1 1;", "hill 1 1;slope0 0 9;", "hill 2 2;runner 0 1 99;line 0 1 2;",
            "hill 2 2;slope 1 1 0;ground 1 1 3;slope 1 1 09;"};
        int[] items = {1, 1, 1, 2, 3, 4};
        for (int k = 0; k < texts.length; k++) {
            CheeseHill x = new CheeseHill();
            Due.type(x, texts[k]);
            DUE.is("9: read of " + texts[k], x.read(), items[k]);
        }
        CheeseHill x = new CheeseHill();
        Due.type(x, texts[5]);
        x.read();
        DUE.is("9: the last slope told counts", x.at(0, 1, 1), 9);
        DUE.is("9: the ground told", x.at(1, 1, 1), 3);
    }

    private static void promise9Faults() {
        fault("", 0);
        fault("   ", 3);
        fault("hil", 0);
        fault("hills 2 2;", 0);
        fault("Hill 2 2;", 0);
        fault("pill 2 2;", 0);
        fault("hilla 2 2;", 0);
        fault("hillz 2 2;", 0);
        fault("hill{2 2;", 4);
        fault("hill`2 2;", 4);
        fault("hill 2/2;", 6);
        fault("hill 2:2;", 6);
        fault(" ;", 1);
        fault("5", 0);
        fault("slope 0 0 1;hill 2 2;", 0);
        fault("hill", 4);
        fault("hill ", 5);
        fault("hill 2 2", 8);
        fault("hill 2 2 ", 9);
        fault("hill 0 2;", 5);
        fault("hill 9 2;", 5);
        fault("hill 2 0;", 7);
        fault("hill 2 7;", 7);
        fault("hill ; 2;", 5);
        fault("hill 2;", 6);
        fault("hill 2 2 2;", 9);
        fault("hill 22;", 5);
        fault("hill 2 2;;", 9);
        fault("hill 2 2;2", 9);
        fault("hill 2 2;\n", 9);
        fault("hill 2 2;hill 2 2;", 9);
        fault("hill 2 2;slop 0 0 1;", 9);
        fault("hill 2 2;slopes 0 0 1;", 9);
        fault("hill 2 2; slope", 15);
        fault("hill 2 2;slope 2 0 1;", 15);
        fault("hill 2 2;slope 0 2 1;", 17);
        fault("hill 2 2;slope 0 0 10;", 19);
        fault("hill 2 2;slope 0 0 line", 19);
        fault("hill 2 2;slope 0 0 1 1;", 21);
        fault("hill 2 2;slope 0 0 1slope", 20);
        fault("hill 2 2;slope 0 0 -1;", 19);
        fault("hill 2 2;ground 2 0 1;", 16);
        fault("hill 2 2;ground 0 2 1;", 18);
        fault("hill 2 2;ground 0 0 4;", 20);
        fault("hill 2 2;runner 5 0 0;", 16);
        fault("hill 2 2;runner 0 2 0;", 18);
        // the number that has a third figure is at fault, from its first byte on
        fault("hill 2 2;runner 0 0 100;", 20);
        fault("hill 2 2;runner 0 0 009;", 20);
        fault("hill 2 2;runner 0 001;", 18);
        fault("hill 2 2;runner 0 0 99999999999999;", 20);
        fault("hill 2 2;line 0 0 0;", 14);
        fault("hill 2 2;runner 0 0 0;line 1 0 0;", 27);
        fault("hill 2 2;runner 0 0 0;line 0 2 0;", 29);
        fault("hill 2 2;runner 0 0 0;line 0 0 3;", 31);
        fault("hill 2 2;runner 0 0 0;line 0 0 2", 32);
        String six = "hill 2 2;runner 0 0 0;runner 0 0 0;runner 0 0 0;runner 0 0 0;runner 0 0 0;runner 0 0 0;";
        fault(six + " runner 0 0 0;", 88);
        fault(six + " runner", 88);
        CheeseHill x = new CheeseHill();
        Due.type(x, six);
        DUE.is("9: six runners", x.read(), 7);
    }

    private static void fault(String text, int place) {
        CheeseHill x = new CheeseHill();
        Due.type(x, text);
        DUE.is("9: read of '" + text + "'", x.read(), -10 - place);
    }

    private static void promise9AllStaysAtAFault() {
        CheeseHill x = new CheeseHill();
        x.runner(1, 1, 1);
        x.run();
        x.hurt(2);
        Due.type(x, "hill 2 2;slope 0 0 9;runner 0 0 0;slope 0 0 10;");
        long was = x.digest();
        DUE.is("9: fault", x.read(), -10 - 44);
        DUE.is("9: all stays", x.digest(), was);
        for (int k = 0; k <= 2; k++) {
            DUE.is("9: a fault is none of the refused", x.status(k), 0);
        }
        DUE.is("9: the undo stays", x.undo(), 1);
    }
}
