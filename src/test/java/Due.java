import java.nio.charset.StandardCharsets;
import java.util.Arrays;

/** What the tests share: comparing, and feeding texts and numbers. */
final class Due {
    private int checked;
    private int wrong;

    void is(String what, long got, long want) {
        checked++;
        if (got != want) {
            wrong++;
            System.out.println(what + ": answered " + got + ", due is " + want);
        }
    }

    void is(String what, boolean got, boolean want) {
        is(what, got ? 1 : 0, want ? 1 : 0);
    }

    boolean isAllRight() {
        return wrong == 0;
    }

    /** Ends the test. */
    void close(String name) {
        System.out.println(name + ": " + checked + " compared, " + wrong + " wrong");
        if (wrong != 0 || checked == 0) {
            System.exit(1);
        }
    }

    /** A text as it is fed: rows of five numbers of four bytes each. */
    static int[][] words(String text) {
        byte[] bytes = text.getBytes(StandardCharsets.ISO_8859_1);
        int[][] rows = new int[(bytes.length + 19) / 20][];
        for (int i = 0; i < rows.length; i++) {
            byte[] part = Arrays.copyOfRange(bytes, 20 * i, 20 * i + 20);
            rows[i] = new int[] {word(part, 0), word(part, 4), word(part, 8), word(part, 12), word(part, 16)};
        }
        return rows;
    }

    /** Feeds a text on an empty tape and answers its length. */
    static int feed(ThreeToSend x, String text) {
        for (int[] w : words(text)) {
            x.feed(w[0], w[1], w[2], w[3], w[4]);
        }
        return text.length();
    }

    /** The same for the program and the model. */
    static int feed(ThreeToSend x, Model model, String text) {
        for (int[] w : words(text)) {
            x.feed(w[0], w[1], w[2], w[3], w[4]);
            model.feed(w);
        }
        return text.length();
    }

    private static int word(byte[] bytes, int i) {
        return (bytes[i] & 255) << 24 | (bytes[i + 1] & 255) << 16 | (bytes[i + 2] & 255) << 8 | bytes[i + 3] & 255;
    }

    static int law(ThreeToSend x, String text) {
        return x.law(feed(x, text));
    }

    static int other(ThreeToSend x, int k, String text) {
        return x.other(k, feed(x, text));
    }

    static int rule(ThreeToSend x, int k, String text) {
        return x.rule(k, feed(x, text));
    }
}
