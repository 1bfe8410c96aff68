import java.nio.charset.StandardCharsets;

/** What the tests share: telling a text to an object, and counting answers that are not due. */
public final class Checks {
    private int asked;
    private int wrong;

    public void due(String call, long got, long want) {
        asked++;
        if (got != want) {
            wrong++;
            if (wrong <= 50) System.out.println(call + " answered " + got + ", due is " + want);
        }
    }

    public void due(String call, boolean got, boolean want) {
        due(call, got ? 1 : 0, want ? 1 : 0);
    }

    public int wrong() {
        return wrong;
    }

    /** Ends the test: exit code 1 if an answer was not the due one. */
    public void close() {
        System.out.println(asked + " answers, " + wrong + " not as due");
        if (wrong != 0 || asked == 0) System.exit(1);
    }

    public static int[] fiveNumbers(byte[] bytes, int from) {
        int[] five = new int[5];
        for (int i = 0; i < 20; i++) {
            int b = from + i < bytes.length ? bytes[from + i] & 255 : 0;
            five[i / 4] = five[i / 4] << 8 | b;
        }
        return five;
    }

    /** Feeds a text (characters 0 to 255), ends it and tells it: what house() answers. */
    public static int tell(BowHouse x, String text) {
        byte[] bytes = text.getBytes(StandardCharsets.ISO_8859_1);
        int before = x.about(9);
        for (int at = 0; at < bytes.length; at += 20) {
            int[] f = fiveNumbers(bytes, at);
            x.feed(f[0], f[1], f[2], f[3], f[4]);
        }
        x.end(before + bytes.length);
        return x.house();
    }

    public static BowHouse told(String text) {
        BowHouse x = new BowHouse();
        tell(x, text);
        return x;
    }
}
