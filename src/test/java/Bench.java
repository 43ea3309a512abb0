import java.nio.charset.StandardCharsets;

/** An object under test, with texts instead of bytes, and a count of wrong answers. */
final class Bench {
    OneBreath x = new OneBreath();
    private final String name;
    private int asked = 0;
    private int wrong = 0;

    Bench(String name) {
        this.name = name;
    }

    /** A new object. */
    void anew() {
        x = new OneBreath();
    }

    void due(String call, long got, long want) {
        asked++;
        if (got != want) {
            wrong++;
            System.out.println(name + ": " + call + " answered " + got + ", due is " + want);
        }
    }

    /** Puts a text on the tape; blanks fill the last twenty bytes. */
    void feed(String text) {
        byte[] bytes = text.getBytes(StandardCharsets.ISO_8859_1);
        for (int i = 0; i < bytes.length; i += 20) {
            int[] five = new int[5];
            for (int k = 0; k < 20; k++) {
                int b = i + k < bytes.length ? bytes[i + k] & 255 : 32;
                five[k / 4] |= b << (24 - 8 * (k % 4));
            }
            x.feed(five[0], five[1], five[2], five[3], five[4]);
        }
    }

    int tongue(String text) {
        feed(text);
        return x.tongue(text.length());
    }

    int line(String text) {
        feed(text);
        return x.line(text.length());
    }

    int spelt(String text) {
        feed(text);
        return x.spelt(text.length());
    }

    int adds(int kind, String text, int m) {
        feed(text);
        return x.adds(kind, text.length(), m);
    }

    int fitted(String text, int what) {
        feed(text);
        return x.fitted(text.length(), what);
    }

    /** A row of 64-bit numbers. */
    void row(int row, long... values) {
        x.numbers(row, 3, values.length);
        for (int i = 0; i < values.length; i++) {
            x.write(row, i, values[i]);
        }
    }

    void end() {
        System.out.println(name + ": " + asked + " answers, " + wrong + " not as due");
        if (wrong != 0) {
            System.exit(1);
        }
    }
}
