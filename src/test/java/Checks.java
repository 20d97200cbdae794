import java.nio.charset.StandardCharsets;

/** What the tests share: texts put on a tape, answers compared and counted. */
final class Checks {
    private int made = 0;
    private int wrong = 0;

    void due(String what, long got, long want) {
        made++;
        if (got != want) {
            wrong++;
            if (wrong <= 40) {
                System.out.println(shortened(what) + " answered " + got + ", due is " + want);
            }
        }
    }

    private static String shortened(String what) {
        return what.length() <= 400 ? what : what.substring(0, 200) + " .. " + what.substring(what.length() - 200);
    }

    void due(String what, boolean got, boolean want) {
        due(what, got ? 1 : 0, want ? 1 : 0);
    }

    void end() {
        System.out.println(made + " answers looked at, " + wrong + " not as due");
        if (wrong != 0 || made == 0) {
            System.exit(1);
        }
    }

    boolean allRight() {
        return wrong == 0;
    }

    static void feed(MincedCases x, String text) {
        feed(x, text.getBytes(StandardCharsets.ISO_8859_1));
    }

    static void feed(MincedCases x, byte[] text) {
        int whole = (text.length + 19) / 20 * 20;
        for (int at = 0; at < whole; at += 20) {
            x.feed(word(text, at), word(text, at + 4), word(text, at + 8), word(text, at + 12), word(text, at + 16));
        }
        x.back(whole - text.length);
    }

    static int word(byte[] text, int at) {
        int word = 0;
        for (int i = 0; i < 4; i++) {
            word = word << 8 | (at + i < text.length ? text[at + i] & 255 : 32);
        }
        return word;
    }

    /** A new object that has read the text. */
    static MincedCases town(String text) {
        MincedCases x = new MincedCases();
        feed(x, text);
        int fault = x.read();
        if (fault != 0) {
            throw new IllegalStateException("fault " + fault + " at " + x.place() + " of " + text);
        }
        return x;
    }
}
