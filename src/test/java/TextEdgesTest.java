import java.util.ArrayList;
import java.util.List;

/** The edges of promise 9: what a text may hold, each kind of FAULT at its place, and that all stays then. */
public final class TextEdgesTest {
    private static final Due DUE = new Due();
    private static final Twins TWINS = new Twins(DUE);

    /** Every item, with two runners told ahead of their lines. */
    private static final String[] GOOD = {"hill", "3", "2", ";", "slope", "2", "1", "9", ";", "ground", "1", "0", "3", ";",
        "runner", "4", "1", "99", ";", "line", "0", "2", "2", ";", "runner", "0", "0", "0", ";", "line", "1", "0", "1", ";"};

    public static void main(String[] args) {
        everyStateStays();
        readIsAsByCalls();
        whatStays();
        aFaultLeavesNoTrace();
        numbersAtTheirEdges();
        twoFiguresAtMost();
        wordsThatAreNone();
        hillOnceAndFirst();
        aSeventhRunner();
        aRunnerWhoIsNotThereYet();
        endsTooEarly();
        everyTokenReplaced();
        blanks();
        everyByte();
        theWholeTextIsUsed();
        DUE.end("TextEdgesTest");
    }

    private static CheeseHill with(String text) {
        CheeseHill x = new CheeseHill();
        Due.type(x, text);
        return x;
    }

    private static void items(String text, int due) {
        DUE.is("9: items of '" + text + "'", with(text).read(), due);
    }

    private static void fault(String text, int place) {
        DUE.is("9: fault of '" + text + "'", with(text).read(), -10 - place);
    }

    /** A good one ahead, then an item at fault, which is told by its own place. */
    private static void faultBehind(String good, String rest, int place) {
        items(good, count(good));
        fault(good + rest, good.length() + place);
    }

    private static int count(String text) {
        return (int) text.chars().filter(c -> c == ';').count();
    }

    private static Twins.Maker with(State state, String text) {
        return () -> {
            CheeseHill x = state.make();
            x.clear();
            Due.type(x, text);
            return x;
        };
    }

    // "-10 less the FAULT: all stays", and it is none of BAD, NO, FULL
    private static void everyStateStays() {
        String[] texts = {"", " ", "x", "hill", "hill 1 1", "hill 9 1;", "hill 1 1;hill 1 1;", "hill 2 2;slope 0 0 9;runner 1 1 1;slope 2",
            "hill 8 6;line 0 0 0;", "hill 1 6;runner 4 5 99;line 0 0 1;#", "hill 2 2;ground 1 1 3;runner 2 0 100;"};
        int[] places = {0, 1, 0, 4, 8, 5, 9, 40, 14, 34, 33};
        for (State s : State.values()) {
            for (int k = 0; k < texts.length; k++) {
                TWINS.asks("9: all stays at a fault: '" + texts[k] + "' [" + s + "]", with(s, texts[k]), CheeseHill::read, -10 - places[k]);
            }
        }
    }

    private static void readIsAsByCalls() {
        String text = "hill 3 2;slope 2 1 9;ground 1 0 3;runner 4 1 99;line 0 2 2;runner 0 0 0;line 1 0 1;slope 2 1 8;line 0 2 1;";
        for (State s : State.values()) {
            CheeseHill x = with(s, text).make();
            DUE.is("9: items", x.read(), 9);
            CheeseHill y = with(s, text).make();
            y.hill(3, 2);
            y.put(0, 2, 1, 8);
            y.put(1, 1, 0, 3);
            y.runner(4, 1, 99);
            y.line(0, 2, 1);
            y.runner(0, 0, 0);
            y.line(1, 0, 1);
            TWINS.alike("9: read is as by calls [" + s + "]", x, y);
            x = with(s, text).make();
            x.read();
            x.runner(2, 1, 50);
            x.line(2, 2, 1);
            DUE.is("9: read again", x.read(), 9);
            y = with(s, text).make();
            y.read();
            TWINS.alike("9: read again is as read once [" + s + "]", x, y);
        }
    }

    // "A HILL that is read takes the place of all but IMAGES, THE TEXT, THE FRACTION, STATUS"
    private static void whatStays() {
        CheeseHill x = with(State.FULLEST, "hill 1 1;").make();
        x.status(9);
        long above = x.part(0);
        long below = x.part(1);
        DUE.is("9: the smallest text", x.read(), 1);
        int[] counts = {1, 1, 0, 0, 0, 9};
        for (int k = 0; k < counts.length; k++) {
            DUE.is("9: behind read: count(" + k + ")", x.count(k), counts[k]);
        }
        DUE.is("9: slope is as at first", x.at(0, 0, 0), 3);
        DUE.is("9: ground is as at first", x.at(1, 0, 0), 0);
        DUE.is("9: above stays", x.part(0), above);
        DUE.is("9: below stays", x.part(1), below);
        DUE.is("9: BAD stays", x.status(0), 1);
        DUE.is("9: NO stays", x.status(1), 0);
        DUE.is("9: FULL stays", x.status(2), 3);
        for (int i = 0; i <= 1; i++) {
            CheeseHill one = with(State.FULLEST, "hill 1 1;").make();
            one.read();
            one.from(i);
            CheeseHill other = with(State.FULLEST, "hill 1 1;").make();
            other.from(i);
            TWINS.alike("9: image " + i + " stays", one, other);
        }
    }

    private static void aFaultLeavesNoTrace() {
        for (State s : State.values()) {
            CheeseHill x = with(s, "hill 3 2;slope 0 0 9;ground 0 0 1;runner 4 1 99;line 0 0 1;line 0 0 3;").make();
            x.read();
            x.clear();
            Due.type(x, "hill 3 2;runner 1 1 1;");
            DUE.is("9: a good one behind a fault", x.read(), 2);
            CheeseHill y = with(s, "hill 3 2;runner 1 1 1;").make();
            y.read();
            TWINS.alike("9: nothing is left of a fault [" + s + "]", x, y);
            TWINS.asks("9: a fault behind a good one: all stays", () -> {
                CheeseHill z = with(s, "hill 3 2;runner 1 1 1;line 0 2 2;ground 1 1 1;").make();
                z.read();
                z.run();
                z.clear();
                Due.type(z, "hill 2 3;slope 0 0 9;ground 0 0 1;runner 4 2 99;line 0 0 1;line 0 0 3;");
                return z;
            }, CheeseHill::read, -78);
        }
    }

    /** Each number of an item from the least to the most, and one more; word: what stands ahead of it, rest: behind it. */
    private static void number(String ahead, String behind, int least, int most) {
        for (int v = 0; v <= most + 1; v++) {
            String[] forms = v < 10 ? new String[] {"" + v, "0" + v} : new String[] {"" + v};
            for (String form : forms) {
                String text = ahead + form + behind;
                if (v >= least && v <= most) {
                    items(text, count(text));
                } else if (form.length() <= 2) {
                    fault(text, ahead.length());
                }
            }
        }
        if (most < 99) {
            fault(ahead + "99" + behind, ahead.length());
        }
    }

    // "a number not as told": each of them
    private static void numbersAtTheirEdges() {
        number("hill ", " 1;", 1, 8);
        number("hill 1 ", ";", 1, 6);
        number("hill 8 ", ";", 1, 6);
        for (int h = 1; h <= 8; h++) {
            for (int w = 1; w <= 6; w++) {
                String hill = "hill " + h + " " + w + ";";
                number(hill + "slope ", " 0 1;", 0, h - 1);
                number(hill + "slope 0 ", " 1;", 0, w - 1);
                number(hill + "ground ", " 0 1;", 0, h - 1);
                number(hill + "ground 0 ", " 1;", 0, w - 1);
                number(hill + "runner 0 ", " 0;", 0, w - 1);
                number(hill + "runner 0 0 0;line 0 ", " 0;", 0, h - 1);
            }
        }
        number("hill 2 2;slope 0 0 ", ";", 0, 9);
        number("hill 2 2;ground 0 0 ", ";", 0, 3);
        number("hill 2 2;runner ", " 0 0;", 0, 4);
        number("hill 2 2;runner 0 0 ", ";", 0, 99);
        number("hill 2 2;runner 0 0 0;line ", " 0 0;", 0, 0);
        number("hill 2 2;runner 0 0 0;line 0 0 ", ";", 0, 2);
        CheeseHill x = with("hill 2 2;slope 1 1 07;ground 1 0 03;runner 03 01 09;line 00 01 02;");
        DUE.is("9: a 0 ahead", x.read(), 5);
        DUE.is("9: slope 07", x.at(0, 1, 1), 7);
        DUE.is("9: ground 03", x.at(1, 1, 0), 3);
        DUE.is("9: start 09", x.goes(0, 0, 2), 9);
        DUE.is("9: line 02", x.line(0, 1, 0), 2);
        x = with("hill 2 2;runner 0 0 99;runner 0 0 10;");
        x.read();
        DUE.is("9: start 99", x.goes(0, 0, 2), 99);
        DUE.is("9: start 10", x.goes(1, 0, 2), 10);
    }

    // "figures (1 or 2 are one number)", "a third figure's number": from its first figure on
    private static void twoFiguresAtMost() {
        String[] three = {"000", "001", "012", "100", "123", "0000", "999999999999999999999999"};
        for (String t : three) {
            fault("hill " + t + " 1;", 5);
            fault("hill 1 " + t + ";", 7);
            fault("hill 1 1;slope " + t + " 0 0;", 15);
            fault("hill 1 1;slope 0 " + t + " 0;", 17);
            fault("hill 1 1;slope 0 0 " + t + ";", 19);
            fault("hill 1 1;ground 0 0 " + t + ";", 20);
            fault("hill 1 1;runner " + t + " 0 0;", 16);
            fault("hill 1 1;runner 0 " + t + " 0;", 18);
            fault("hill 1 1;runner 0 0 " + t + ";", 20);
            fault("hill 1 1;runner 0 0 " + t, 20);
            fault("hill 1 1;runner 0 0 0;line " + t + " 0 0;", 27);
            fault("hill 1 1;runner 0 0 0;line 0 " + t + " 0;", 29);
            fault("hill 1 1;runner 0 0 0;line 0 0 " + t + ";", 31);
            fault("hill 1 1;runner 0 0 0 " + t + ";", 22);
            fault(t, 0);
        }
        items("hill 1 1;runner00 00 00;", 2);
    }

    // "a word that is none"
    private static void wordsThatAreNone() {
        String[] none = {"a", "z", "h", "hi", "hil", "hills", "hilll", "ill", "bill", "hull", "hila", "hilz", "slope", "ground", "runner", "line",
            "hillslope", "abcdefghijklmnopqrstuvwxyz"};
        for (String word : none) {
            fault(word + " 2 2;", 0);
            fault("  " + word, 2);
        }
        String[] items = {"slope", "ground", "runner", "line"};
        for (String item : items) {
            String behind = item.equals("runner") ? " 0 0 0;" : " 0 0 1;";
            String good = "hill 2 2;runner 0 0 0;";
            items(good + item + behind, 3);
            faultBehind(good, item.substring(0, item.length() - 1) + behind, 0);
            faultBehind(good, item.substring(1) + behind, 0);
            faultBehind(good, item + "s" + behind, 0);
            faultBehind(good, "a" + item + behind, 0);
            faultBehind(good, item + item + behind, 0);
            faultBehind(good, item.substring(0, item.length() - 1) + "z" + behind, 0);
            faultBehind(good, "z" + item.substring(1) + behind, 0);
            faultBehind(good, " " + item.toUpperCase() + behind, 1);
            // a word that ends too early is one that is none
            faultBehind(good, item.substring(0, 2), 0);
            // "runne" and a byte that begins none: the word comes first
            faultBehind(good, item.substring(0, 2) + "#", 0);
            faultBehind(good, item + "#" + behind, item.length());
        }
    }

    // "hill H W (once, first of all)": "hill again, anything ahead of it"
    private static void hillOnceAndFirst() {
        fault("hill 2 2;hill 2 2;", 9);
        fault("hill 2 2;hill", 9);
        fault("hill 2 2; slope 0 0 1; hill 3 3;", 23);
        fault("slope 0 0 1;hill 2 2;", 0);
        fault("ground 0 0 1;hill 2 2;", 0);
        fault("runner 0 0 0;hill 2 2;", 0);
        fault("line 0 0 0;hill 2 2;", 0);
        fault(";hill 2 2;", 0);
        fault(" ; hill 2 2;", 1);
        fault("1 hill 2 2;", 0);
        fault("12hill 2 2;", 0);
        fault("\thill 2 2;", 0);
        items(" hill 2 2;", 1);
    }

    // "a 7th runner at its word"
    private static void aSeventhRunner() {
        StringBuilder t = new StringBuilder("hill 1 1;");
        for (int n = 1; n <= 6; n++) {
            t.append("runner 0 0 0;");
            items(t.toString(), 1 + n);
        }
        int end = t.length();
        fault(t + "runner 0 0 0;", end);
        fault(t + "  runner 9 9 999;", end + 2);
        fault(t + "runner", end);
        fault(t + "runner;", end);
        items(t + "line 5 0 2;slope 0 0 1;", 9);
        fault(t + "line 5 0 2;runner 0 0 0;", end + 11);
        CheeseHill x = with(t.toString());
        x.read();
        DUE.is("9: six of a text", x.count(2), 6);
        DUE.is("9: a seventh by a call", x.runner(0, 0, 0), -4);
        // Those whom the text does not tell are not counted: the hill that is read takes their place.
        CheeseHill y = with(State.FULLEST, "hill 8 6;runner 0 0 0;").make();
        DUE.is("9: a runner where six were", y.read(), 2);
        DUE.is("9: one", y.count(2), 1);
    }

    // "a number not as told, also a RUNNER who is not there yet"
    private static void aRunnerWhoIsNotThereYet() {
        StringBuilder t = new StringBuilder("hill 1 1;");
        for (int n = 0; n <= 6; n++) {
            fault(t + "line " + n + " 0 0;", t.length() + 5);
            fault(t + "line " + n + " 0 0;runner 0 0 0;", t.length() + 5);
            if (n > 0) {
                items(t + "line " + (n - 1) + " 0 2;", n + 2);
                items(t + "line 0" + (n - 1) + " 0 2;line 0 0 1;", n + 3);
            }
            t.append("runner 0 0 0;");
        }
        // Whoever is on the hill now is not there in the text.
        CheeseHill x = with(State.FULLEST, "hill 8 6;line 0 0 0;").make();
        DUE.is("9: a runner of the hill before", x.read(), -24);
    }

    // "the TEXT's length, if it ends too early (an empty one, too)"
    private static void endsTooEarly() {
        fault("", 0);
        for (int n = 1; n <= 250; n++) {
            fault(" ".repeat(n), n);
        }
        for (int many = 0; many < GOOD.length; many++) {
            String text = joined(GOOD, many);
            boolean whole = many > 0 && GOOD[many - 1].equals(";");
            for (int blanks = 0; blanks < 3; blanks++) {
                String more = text + " ".repeat(blanks);
                if (whole) {
                    items(more, count(more));
                } else {
                    fault(more, more.length());
                }
            }
        }
    }

    private static String joined(String[] tokens, int many) {
        StringBuilder t = new StringBuilder();
        for (int k = 0; k < many; k++) {
            t.append(k == 0 ? "" : " ").append(tokens[k]);
        }
        return t.toString();
    }

    /** Whatever can not stand at a token's place is at fault there, whatever comes behind it. */
    private static void everyTokenReplaced() {
        for (int k = 0; k < GOOD.length; k++) {
            String ahead = joined(GOOD, k) + (k == 0 ? "" : " ");
            StringBuilder behind = new StringBuilder();
            for (int j = k + 1; j < GOOD.length; j++) {
                behind.append(' ').append(GOOD[j]);
            }
            for (String wrong : wrongInPlaceOf(GOOD[k], k == 0)) {
                fault(ahead + wrong + behind, ahead.length());
                fault(ahead + wrong, ahead.length());
                fault(ahead + wrong + "#", ahead.length());
            }
        }
    }

    private static List<String> wrongInPlaceOf(String token, boolean first) {
        List<String> wrong = new ArrayList<>(List.of("#", "-", ".", ",", ":", "H", "{", "~", "hil", "z"));
        char c = token.charAt(0);
        if (c != ';') {
            wrong.add(";");
        }
        if (c < '0' || c > '9') {
            wrong.addAll(List.of("0", "1", "12", "99", "123"));
        } else {
            wrong.add("100");
        }
        if (c < 'a' || !first) {
            wrong.add("hill");
        }
        if (c < 'a' || first) {
            wrong.addAll(List.of("slope", "ground", "runner", "line"));
        }
        return wrong;
    }

    // "blanks (32) between"
    private static void blanks() {
        String text = joined(GOOD, GOOD.length);
        items(text, 7);
        items(text.replace(" ;", ";").replace("; ", ";"), 7);
        items(" " + text.replace(" ", "   ") + " ", 7);
        items("hill3 2;slope2 1 9;ground1 0 3;runner4 1 99;line0 2 2;", 5);
        fault("hill 32;", 5);
        fault("hill 8;", 6);
        fault("hi ll 3 2;", 0);
        fault("hill 1 1;run ner 0 0 0;", 9);
        fault("hill 1 1;runner 0 0 9 9;", 22);
        fault("hill\t3 2;", 4);
        fault("hill 3\n2;", 6);
        fault("hill 3 2;\n", 9);
        fault("hill 3 2;\r", 9);
        fault("hill 3\u00a02;", 6);
        items("hill 3 2;" + " ".repeat(241), 1);
        items(" ".repeat(241) + "hill 3 2;", 1);
    }

    // "a byte that begins none, too": each of 256, at several places
    private static void everyByte() {
        for (int b = 0; b < 256; b++) {
            char c = (char) b;
            boolean letter = b >= 'a' && b <= 'z';
            boolean figure = b >= '0' && b <= '9';
            if (c == ' ') {
                fault("" + c, 1);
                items("hill" + c + "2 2;", 1);
                items("hill 2" + c + "2;", 1);
                items("hill 2 2" + c + ";", 1);
                items("hill 2 2;" + c, 1);
                continue;
            }
            fault("" + c, 0);
            fault("hill 2 2;" + c, 9);
            fault("hill 2 2;" + c + "slope 0 0 1;", 9);
            fault("hill 2" + c + "2;", figure ? 5 : 6);
            if (c != ';') {
                fault("hill 2 2 " + c + ";", 9);
            }
            if (letter) {
                fault("hill" + c + "2 2;", 0);
            } else if (c == '0') {
                items("hill" + c + "2 2;", 1);
            } else {
                fault("hill" + c + "2 2;", 4);
            }
            if (b < '1' || b > '8') {
                fault("hill " + c + " 2;", 5);
            } else {
                items("hill " + c + " 2;", 1);
            }
        }
    }

    // "250 bytes at most": the last of them counts
    private static void theWholeTextIsUsed() {
        StringBuilder t = new StringBuilder("hill 8 6;runner 0 0 0;");
        while (t.length() + 10 <= 250) {
            t.append("line0 7 2;");
        }
        String blanks = " ".repeat(250 - t.length());
        String text = t.insert(9, blanks).toString();
        DUE.is("9: 250 bytes", text.length(), 250);
        items(text, 24);
        CheeseHill x = with(text.substring(0, 246) + "6 1;");
        DUE.is("9: the last item of 250 bytes", x.read(), 24);
        DUE.is("9: is done", x.line(0, 6, 0), 1);
        fault(text.substring(0, 249), 249);
        fault(text.substring(0, 249) + " ", 250);
        fault(text.substring(0, 249) + "x", 249);
        fault(text.substring(0, 248) + "3;", 248);
        fault(text.substring(0, 248) + "  ", 250);
        fault("hill 8 6;" + " ".repeat(240) + "h", 249);
        // As many items as 250 bytes hold: 1 and 24 of ten bytes would be 249, but for the runner's.
        items("hill1 1;runner0 0 0;" + "line0 0 1;".repeat(23), 25);
    }
}
