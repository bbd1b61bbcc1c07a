import java.nio.charset.StandardCharsets;
import java.util.Arrays;

/** What the tests share: comparing, and feeding texts and numbers. */
final class Due {
    private int checked;
    private int wrong;

    void is(String what, long got, long want) {
        checked++;
        if (got != want) {
            wrong++;
            System.out.println(what + ": answered " + got + ", due is " + want);
        }
    }

    void is(String what, boolean got, boolean want) {
        is(what, got ? 1 : 0, want ? 1 : 0);
    }

    boolean isAllRight() {
        return wrong == 0;
    }

    /** Ends the test. */
    void close(String name) {
        System.out.println(name + ": " + checked + " compared, " + wrong + " wrong");
        if (wrong != 0 || checked == 0) {
            System.exit(1);
        }
    }

    /** Feeds a text on an empty tape and answers its length. */
    static int feed(ThreeToSend x, String text) {
        byte[] bytes = text.getBytes(StandardCharsets.ISO_8859_1);
        for (int i = 0; i < bytes.length; i += 20) {
            byte[] part = Arrays.copyOfRange(bytes, i, i + 20);
            x.feed(word(part, 0), word(part, 4), word(part, 8), word(part, 12), word(part, 16));
        }
        return bytes.length;
    }

    private static int word(byte[] bytes, int i) {
        return (bytes[i] & 255) << 24 | (bytes[i + 1] & 255) << 16 | (bytes[i + 2] & 255) << 8 | bytes[i + 3] & 255;
    }

    static int law(ThreeToSend x, String text) {
        return x.law(feed(x, text));
    }

    static int other(ThreeToSend x, int k, String text) {
        return x.other(k, feed(x, text));
    }

    static int rule(ThreeToSend x, int k, String text) {
        return x.rule(k, feed(x, text));
    }
}
