/** What the tests share: counting wrong answers, and feeding texts. */
final class Check {
    private int wrong;
    private int calls;

    void due(String call, long got, long want) {
        calls++;
        if (got != want) {
            wrong++;
            if (wrong <= 20) {
                System.out.println(call + " answered " + got + ", due is " + want);
            }
        }
    }

    void due(String call, boolean got, boolean want) {
        due(call, got ? 1 : 0, want ? 1 : 0);
    }

    boolean isClean() {
        return wrong == 0;
    }

    /** Ends the program, with 1 if something was wrong. */
    void end(String name) {
        System.out.println(name + ": " + calls + " answers, " + wrong + " not as due");
        if (wrong > 0) {
            System.exit(1);
        }
    }

    /** The five numbers of feed() for the i-th twenty bytes of a text, blanks behind its end. */
    static int[] twenty(String text, int i) {
        int[] five = new int[5];
        for (int k = 0; k < 20; k++) {
            int at = 20 * i + k;
            int c = at < text.length() ? text.charAt(at) : ' ';
            five[k / 4] = five[k / 4] << 8 | c & 255;
        }
        return five;
    }

    static int feeds(String text) {
        return (text.length() + 19) / 20;
    }

    /** Feeds a text to the byte. */
    static void feed(WishBridges x, String text) {
        for (int i = 0; i < feeds(text); i++) {
            int[] f = twenty(text, i);
            x.feed(f[0], f[1], f[2], f[3], f[4]);
        }
        x.back(feeds(text) * 20 - text.length());
    }

    static int read(WishBridges x, String text) {
        feed(x, text);
        return x.read();
    }

    /** A new object that has read a text. */
    static WishBridges told(String text) {
        WishBridges x = new WishBridges();
        int fault = read(x, text);
        if (fault != 0) {
            throw new IllegalStateException("fault " + fault + " at " + x.place() + ": " + text);
        }
        return x;
    }
}
