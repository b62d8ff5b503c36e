import java.util.Random;

/**
 * Long runs of calls drawn by fixed seeds, each answer held against that of Model, the document's other
 * reading; args: how many runs, the first seed.
 */
public final class RandomTest {
    private final Random dice;
    private final AheadStore x = new AheadStore();
    private final Model m = new Model();
    private final StringBuilder trace = new StringBuilder();
    private final int addresses;
    private final int parties;
    private final int crashy;
    private int calls = 0;

    private RandomTest(long seed) {
        dice = new Random(seed);
        addresses = new int[] {4, 40, 256}[dice.nextInt(3)];
        parties = 2 + dice.nextInt(8);
        crashy = dice.nextInt(4);
    }

    public static void main(String[] args) {
        int runs = args.length > 0 ? Integer.parseInt(args[0]) : 700;
        int first = args.length > 1 ? Integer.parseInt(args[1]) : 1;
        for (int i = 0; i < runs; i++) {
            RandomTest one = new RandomTest(first + i);
            if (!one.go()) {
                System.out.println("seed " + (first + i) + ":\n" + one.trace);
                Due.is("seed " + (first + i), 0, 1);
                break;
            }
            Due.is("seed " + (first + i), 1, 1);
        }
        Due.end("RandomTest");
    }

    private boolean go() {
        if (dice.nextInt(8) == 0 && !nearlyFull()) {
            return false;
        }
        while (calls < 512) {
            if (!(dice.nextInt(100) < 70 ? deed() : question())) {
                return false;
            }
        }
        return true;
    }

    /** So many WRITES and ADDS at once that the log is FULL a few calls later. */
    private boolean nearlyFull() {
        boolean right = true;
        for (int t = 1; t <= 3; t++) {
            right &= same("act(" + t + ", 0)", x.act(t, 0), m.act(t, 0));
        }
        int most = 3350 + dice.nextInt(151);
        while (right && m.end() < most && calls < 480) {
            int t = 1 + dice.nextInt(3);
            int a = dice.nextInt(80) * 3 + t;
            int v = 1 + dice.nextInt(255);
            right = dice.nextInt(4) == 0
                ? same("write(" + t + ", " + a + ", " + v + ")", x.write(t, a, v), m.change(t, a, v, true))
                : same("add(" + t + ", " + a + ", " + v + ")", x.add(t, a, v), m.change(t, a, v, false));
        }
        return right;
    }

    private boolean same(String call, int got, int want) {
        calls++;
        trace.append(call).append(" answered ").append(got);
        if (got != want) {
            trace.append(", due is ").append(want);
        }
        trace.append('\n');
        return got == want;
    }

    private boolean same(String call, boolean got, boolean want) {
        return same(call, got ? 1 : 0, want ? 1 : 0);
    }

    private int t() {
        return dice.nextInt(60) == 0 ? dice.nextInt(13) - 1 : 1 + dice.nextInt(parties);
    }

    private int a() {
        if (dice.nextInt(80) == 0) {
            return dice.nextInt(300) - 20;
        }
        int a = dice.nextInt(addresses);
        return addresses == 40 ? a * 6 % 256 : a;
    }

    private int v() {
        return dice.nextInt(60) == 0 ? dice.nextInt(300) - 20 : dice.nextInt(256);
    }

    private int s() {
        if (m.recs.isEmpty() || dice.nextInt(30) == 0) {
            return dice.nextInt(m.end() + 20) - 5;
        }
        return m.recs.get(dice.nextInt(m.recs.size())).stamp();
    }

    private boolean deed() {
        if (x.look(0) == 0 && dice.nextInt(3) > 0) {
            int n = dice.nextInt(3) == 0 ? -1 : dice.nextInt(20) == 0 ? dice.nextInt(110) - 5 : dice.nextInt(12);
            return same("recover(" + n + ")", x.recover(n), m.recover(n));
        }
        int t = t();
        int a = a();
        int v = v();
        int which = dice.nextInt(100);
        if (which < 12) {
            int what = dice.nextInt(20) == 0 ? dice.nextInt(8) - 1 : 0;
            return same("act(" + t + ", " + what + ")", x.act(t, what), m.act(t, what));
        } else if (which < 36) {
            return same("write(" + t + ", " + a + ", " + v + ")", x.write(t, a, v), m.change(t, a, v, true));
        } else if (which < 52) {
            return same("add(" + t + ", " + a + ", " + v + ")", x.add(t, a, v), m.change(t, a, v, false));
        } else if (which < 57) {
            return same("save(" + t + ")", x.save(t), m.save(t));
        } else if (which < 61) {
            int s = dice.nextInt(9) - (dice.nextInt(9) == 0 ? 1 : 0);
            s = dice.nextBoolean() ? s : s / 3;
            return same("back(" + t + ", " + s + ")", x.back(t, s), m.back(t, s));
        } else if (which < 66) {
            int n = dice.nextInt(8) == 0 ? dice.nextInt(24) - 1 : 1 + dice.nextInt(4);
            return same("roll(" + t + ", " + n + ")", x.roll(t, n), m.roll(t, n));
        } else if (which < 76) {
            int what = new int[] {1, 2, 2, 3, 3, 4, 4}[dice.nextInt(7)];
            return same("act(" + t + ", " + what + ")", x.act(t, what), m.act(t, what));
        } else if (which < 88) {
            return keeping();
        } else {
            return rareDeed(which);
        }
    }

    private boolean keeping() {
        int what = dice.nextInt(30) == 0 ? dice.nextInt(10) - 1 : dice.nextInt(7);
        int v = what == 0 ? (dice.nextInt(3) == 0 ? 0 : s()) : dice.nextInt(20) == 0 ? dice.nextInt(20) - 2 : dice.nextInt(16);
        if (what == 6 && x.look(14) > 0 && dice.nextBoolean()) {
            v = Integer.numberOfTrailingZeros(x.look(14));
        }
        return same("keep(" + what + ", " + v + ")", x.keep(what, v), m.keep(what, v));
    }

    private boolean rareDeed(int which) {
        if (which < 90) {
            int torn = dice.nextInt(20) == 0 ? dice.nextInt(1020) - 10 : dice.nextInt(3) == 0 ? 0 : dice.nextInt(60);
            return dice.nextInt(4) >= crashy || same("crash(" + torn + ")", x.crash(torn), m.crash(torn));
        } else if (which < 91) {
            int n = dice.nextInt(10);
            return same("frames(" + n + ")", x.frames(n), m.frames(n));
        } else if (which < 93) {
            int n = dice.nextInt(10) == 0 ? dice.nextInt(1020) - 10 : 1 + dice.nextInt(150);
            return same("ship(" + n + ")", x.ship(n), m.ship(n));
        } else if (which < 94) {
            boolean taken = dice.nextInt(3) > 0;
            return same("image(" + taken + ")", x.image(taken), m.image(taken));
        } else if (which < 97) {
            return planning();
        } else {
            int n = dice.nextInt(20) == 0 ? dice.nextInt(30) - 2 : 1 + dice.nextInt(6);
            return same("run(" + n + ")", x.run(n), m.run(n));
        }
    }

    private String lines() {
        StringBuilder b = new StringBuilder();
        int many = dice.nextInt(6) == 0 ? 24 + dice.nextInt(3) : dice.nextInt(12);
        for (int i = 0; i < many; i++) {
            int verb = many > 20 ? 10 + dice.nextInt(4) : dice.nextInt(14);
            if (verb < 10) {
                b.append(t()).append(dice.nextInt(4) == 0 ? "" : " ");
            }
            b.append(Model.VERBS.get(verb));
            String gap = dice.nextInt(4) == 0 ? "" : dice.nextInt(5) == 0 ? "\n " : " ";
            if (verb == 1 || verb == 2) {
                b.append(gap).append(a()).append(" ").append(v());
            } else if (verb == 4 || verb == 9 || verb == 11) {
                b.append(gap).append(dice.nextInt(15) == 0 ? dice.nextInt(20) : 1 + dice.nextInt(7));
            }
            b.append(";");
        }
        if (dice.nextInt(4) == 0 && b.length() > 0) {
            b.setCharAt(dice.nextInt(b.length()), "a;7 ?Zw0\n\u00e9".charAt(dice.nextInt(10)));
        }
        if (dice.nextInt(6) == 0) {
            b.append(' ');
        }
        return b.length() > 400 ? b.substring(0, 400) : b.toString();
    }

    private boolean planning() {
        String text = lines();
        for (int i = 0; i < text.length(); i += 20) {
            int[] five = new int[5];
            for (int k = 0; k < 20; k++) {
                five[k / 4] |= (i + k < text.length() ? text.charAt(i + k) : ' ') << 8 * (3 - k % 4);
            }
            if (!same("feed(" + five[0] + ", " + five[1] + ", " + five[2] + ", " + five[3] + ", " + five[4] + ")",
                x.feed(five[0], five[1], five[2], five[3], five[4]), m.feed(five))) {
                return false;
            }
        }
        int n = dice.nextInt(10) == 0 ? dice.nextInt(410) - 5 : text.length();
        return same("end(" + n + ")", x.end(n), m.end(n))
            && (dice.nextInt(20) == 0 || same("plan()", x.plan(), m.plan()))
            && same("fault(0)", x.fault(0), m.fault) && same("fault(1)", x.fault(1), m.faultPlace);
    }

    private boolean question() {
        int a = a();
        int t = t();
        int what = dice.nextInt(10) - 1;
        switch (dice.nextInt(12)) {
            case 0: return same("at(" + a + ", " + what % 5 + ")", x.at(a, what % 5), m.at(a, what % 5));
            case 1: {
                int p = dice.nextInt(30) == 0 ? dice.nextInt(20) - 2 : dice.nextInt(16);
                return same("page(" + p + ", " + what + ")", x.page(p, what), m.page(p, what));
            }
            case 2: return same("tx(" + t + ", " + what + ")", x.tx(t, what), m.tx(t, what));
            case 3: {
                int i = dice.nextInt(m.end() + 10);
                return same("log(" + i + ")", x.log(i), m.log(i));
            }
            case 4: {
                int s = s();
                return same("record(" + s + ", " + what + ")", x.record(s, what), m.record(s, what));
            }
            case 5: {
                int torn = dice.nextInt(20) == 0 ? dice.nextInt(1020) - 10 : dice.nextInt(120);
                int e = dice.nextInt(20) == 0 ? dice.nextInt(13) - 1 : dice.nextInt(6);
                int asked = dice.nextInt(3) == 0 ? a : 256 + dice.nextInt(dice.nextInt(20) == 0 ? 8 : 6);
                return same("would(" + torn + ", " + e + ", " + asked + ")", x.would(torn, e, asked), m.would(torn, e, asked));
            }
            case 6: return same("victim()", x.victim(), m.victim());
            case 7: {
                int w = what % 4;
                return same("stand(" + a + ", " + w + ")", x.stand(a, w), m.stand(a, w));
            }
            case 8: {
                int s = s();
                return same("asOf(" + a + ", " + s + ")", x.asOf(a, s), m.asOf(a, s));
            }
            case 9: {
                int k = dice.nextInt(13) - 1;
                return same("count(" + k + ")", x.count(k), m.count(k));
            }
            case 10: return everything();
            default: {
                int w = dice.nextInt(21) - 1;
                return same("look(" + w + ")", x.look(w), m.look(w));
            }
        }
    }

    /** All that can be asked cheaply; it counts as no call. */
    private boolean everything() {
        boolean right = true;
        int kept = calls;
        int length = trace.length();
        for (int w = 0; w < 19; w++) {
            right &= same("look(" + w + ")", x.look(w), m.look(w));
        }
        for (int t = 1; t <= 9; t++) {
            for (int w = 0; w < 8; w++) {
                right &= same("tx(" + t + ", " + w + ")", x.tx(t, w), m.tx(t, w));
            }
        }
        for (int p = 0; p < 16; p++) {
            for (int w = 0; w < 6; w++) {
                right &= same("page(" + p + ", " + w + ")", x.page(p, w), m.page(p, w));
            }
        }
        for (int a = 0; a < 256; a += 1 + dice.nextInt(12)) {
            for (int w = 0; w < 4; w++) {
                right &= same("at(" + a + ", " + w + ")", x.at(a, w), m.at(a, w));
            }
            for (int w = 0; w < 3; w++) {
                right &= same("stand(" + a + ", " + w + ")", x.stand(a, w), m.stand(a, w));
            }
        }
        calls = kept;
        if (right) {
            trace.setLength(length);
        }
        return right;
    }
}
