import java.util.Random;

/** Any arguments in any state: no call throws, and each ends; the state stays one that can be told. */
public final class HostileTest {
    private static final int[] EDGES = {Integer.MIN_VALUE, Integer.MIN_VALUE + 1, -1000, -17, -2, -1, 0, 1, 2, 3, 4, 5, 6,
        7, 8, 9, 10, 14, 15, 16, 17, 20, 21, 24, 25, 99, 100, 255, 256, 257, 261, 262, 399, 400, 999, 1000, 3499, 3500,
        3501, 8599, 8600, 8601, 65535, 65536, Integer.MAX_VALUE - 1, Integer.MAX_VALUE};

    public static void main(String[] args) {
        for (int seed = 1; seed <= 400; seed++) {
            AheadStore x = new AheadStore();
            Random dice = new Random(seed);
            for (int i = 0; i < 512; i++) {
                call(x, dice);
            }
            Due.yes("END stands at a place (seed " + seed + ")", x.look(1) >= 8 && x.look(1) < 8600);
            Due.yes("FLUSHED is END at most (seed " + seed + ")", x.look(2) >= 8 && x.look(2) <= x.look(1));
        }
        Due.end("HostileTest");
    }

    private static int some(Random dice) {
        return dice.nextInt(3) == 0 ? EDGES[dice.nextInt(EDGES.length)] : dice.nextInt(10);
    }

    private static void call(AheadStore x, Random dice) {
        int a = some(dice);
        int b = some(dice);
        int c = some(dice);
        switch (dice.nextInt(28)) {
            case 0: x.frames(a); break;
            case 1: x.act(a, b); break;
            case 2: x.write(a, b, c); break;
            case 3: x.add(a, b, c); break;
            case 4: x.save(a); break;
            case 5: x.back(a, b); break;
            case 6: x.roll(a, b); break;
            case 7: x.keep(a, b); break;
            case 8: x.crash(a); break;
            case 9: x.recover(a); break;
            case 10: x.feed(a, b, c, dice.nextInt(), dice.nextInt()); break;
            case 11: x.end(a); break;
            case 12: x.plan(); break;
            case 13: x.fault(a); break;
            case 14: x.run(a); break;
            case 15: x.at(a, b); break;
            case 16: x.page(a, b); break;
            case 17: x.tx(a, b); break;
            case 18: x.log(a); break;
            case 19: x.record(a, b); break;
            case 20: x.would(a, b, c); break;
            case 21: x.victim(); break;
            case 22: x.ship(a); break;
            case 23: x.stand(a, b); break;
            case 24: x.asOf(a, b); break;
            case 25: x.count(a); break;
            case 26: x.image(dice.nextBoolean()); break;
            default: x.look(a); break;
        }
    }
}
