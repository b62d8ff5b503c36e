/** What the tests share: they tell every answer that is not the one that is due, and end with exit code 1. */
final class Due {
    private static int asked = 0;
    private static int wrong = 0;

    private Due() { }

    static void is(String call, long got, long want) {
        asked++;
        if (got != want) {
            wrong++;
            if (wrong <= 40) {
                System.out.println(call + " answered " + got + ", due is " + want);
            }
        }
    }

    static void yes(String call, boolean got) {
        is(call, got ? 1 : 0, 1);
    }

    static void no(String call, boolean got) {
        is(call, got ? 1 : 0, 0);
    }

    static void end(String name) {
        System.out.println(name + ": " + asked + " answers asked, " + wrong + " wrong");
        if (wrong > 0 || asked == 0) {
            System.exit(1);
        }
    }

    /** The text as the TAPE: fed by twenties, then cut to its length. */
    static void feed(AheadStore x, String text) {
        int[] b = new int[(text.length() + 19) / 20 * 20];
        for (int i = 0; i < b.length; i++) {
            b[i] = i < text.length() ? text.charAt(i) & 255 : ' ';
        }
        for (int i = 0; i < b.length; i += 20) {
            is("feed of " + text, x.feed(four(b, i), four(b, i + 4), four(b, i + 8), four(b, i + 12),
                four(b, i + 16)), i + 20);
        }
        yes("end of " + text, x.end(text.length()));
    }

    private static int four(int[] b, int i) {
        return b[i] << 24 | b[i + 1] << 16 | b[i + 2] << 8 | b[i + 3];
    }

    static int plan(AheadStore x, String text) {
        feed(x, text);
        return x.plan();
    }
}
