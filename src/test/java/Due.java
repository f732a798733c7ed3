import java.nio.charset.StandardCharsets;

/** Counts answers that are not the ones due, and ends a test. */
final class Due {
    private int calls = 0;
    private int wrong = 0;
    private String part = "";

    /** Names the promise that the next answers belong to. */
    void promise(String name) {
        part = name;
    }

    void is(String call, long got, long want) {
        calls++;
        if (got != want) {
            wrong++;
            System.out.println(part + ": " + call + " answered " + got + ", due is " + want);
        }
    }

    void is(String call, boolean right) {
        is(call, right ? 1 : 0, 1);
    }

    /** Lays a row of bytes on an empty tape; at most 96. */
    static void tape(HeronTalk x, byte[] bytes) {
        for (int at = 0; at < bytes.length; at += 12) {
            x.feed(word(bytes, at), word(bytes, at + 4), word(bytes, at + 8));
        }
        x.trim(bytes.length);
    }

    static void tape(HeronTalk x, String text) {
        tape(x, text.getBytes(StandardCharsets.ISO_8859_1));
    }

    static int text(HeronTalk x, String text) {
        tape(x, text);
        return x.text();
    }

    static int word(byte[] bytes, int at) {
        int word = 0;
        for (int i = at; i < at + 4; i++) {
            word = word << 8 | (i < bytes.length ? bytes[i] & 255 : ' ');
        }
        return word;
    }

    /** A town of so many facts, worth 10, 20, 30 .. (at most 90), and people. */
    static HeronTalk town(int facts, int people) {
        HeronTalk x = new HeronTalk();
        for (int i = 0; i < facts; i++) {
            x.fact(Math.min(90, 10 * i + 10));
        }
        for (int i = 0; i < people; i++) {
            x.person();
        }
        return x;
    }

    void end() {
        System.out.println(calls + " answers looked at, " + wrong + " not as due");
        if (wrong != 0) {
            System.exit(1);
        }
    }
}
