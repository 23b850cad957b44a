/** Compares answers with those that are due, prints the others, and ends a test. */
final class Due {
    private static int looked;
    private static int wrong;

    private Due() {}

    static void due(String call, int got, int want) {
        looked++;
        if (got != want) {
            wrong++;
            System.out.println(call + " answered " + got + ", due is " + want);
        }
    }

    static void isTrue(String what, boolean holds) {
        due(what, holds ? 1 : 0, 1);
    }

    /** Puts a text on the tape, which is empty, by calls of feed and trim alone. */
    static void onTape(TurtleBet bet, String text) {
        byte[] bytes = new byte[(text.length() + 11) / 12 * 12];
        for (int i = 0; i < text.length(); i++) {
            bytes[i] = (byte) text.charAt(i);
        }
        for (int i = 0; i < bytes.length; i += 12) {
            bet.feed(four(bytes, i), four(bytes, i + 4), four(bytes, i + 8));
        }
        due("trim for " + text, bet.trim(text.length()), text.length());
    }

    private static int four(byte[] bytes, int at) {
        int v = 0;
        for (int i = at; i < at + 4; i++) {
            v = v << 8 | bytes[i] & 255;
        }
        return v;
    }

    static int text(TurtleBet bet, String text) {
        onTape(bet, text);
        return bet.text();
    }

    static void end() {
        System.out.println(wrong == 0 ? looked + " answers are as due" : wrong + " of " + looked + " answers are not as due");
        if (wrong != 0) {
            System.exit(1);
        }
    }
}
