/** Counts the answers that are not as due, and ends a test with exit code 1 if there was one. */
final class Due {
    private int checked = 0;
    private int wrong = 0;

    void is(String call, long got, long want) {
        checked++;
        if (got != want) {
            wrong++;
            if (wrong <= 50) {
                System.out.println(call + " answered " + got + ", due is " + want);
            }
        }
    }

    void end(String name) {
        System.out.println(name + ": " + checked + " answers, " + wrong + " not as due");
        if (wrong != 0 || checked == 0) {
            System.exit(1);
        }
    }

    /** A text typed in full, eight bytes a call. */
    static void type(CheeseHill x, String text) {
        x.clear();
        for (int k = 0; k < text.length(); k += 8) {
            String piece = text.substring(k, Math.min(text.length(), k + 8));
            long v = 0;
            for (char c : piece.toCharArray()) {
                v = v << 8 | c;
            }
            x.type(v, piece.length());
        }
    }
}
