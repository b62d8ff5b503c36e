/** Promises 24 to 26: ship, stand, asOf. */
public final class StandbyTest {
    public static void main(String[] args) {
        ships();
        tornEnd();
        takeOver();
        asOf();
        Due.end("StandbyTest");
    }

    private static void ships() {
        AheadStore x = new AheadStore();
        for (int n : new int[] {0, -1, 1000, Integer.MIN_VALUE, Integer.MAX_VALUE}) {
            Due.is("ship(" + n + ")", x.ship(n), -1);
        }
        x.act(1, 0);
        x.write(1, 30, 3);
        x.add(1, 30, 4);
        Due.is("nothing is flushed", x.ship(999), 8);
        x.keep(0, 0);
        Due.is("ship(14)", x.ship(14), 22);
        Due.is("DONE: whole records alone", x.look(16), 14);
        Due.is("stand(30, 0)", x.stand(30, 0), 0);
        Due.is("ship(1)", x.ship(1), 23);
        Due.is("DONE", x.look(16), 23);
        Due.is("stand(30, 0)", x.stand(30, 0), 3);
        Due.is("stand(30, 2)", x.stand(30, 2), 14);
        Due.is("stand(16, 2): by PAGE", x.stand(16, 2), 14);
        Due.is("stand(15, 2)", x.stand(15, 2), 0);
        Due.is("ship(999)", x.ship(999), 31);
        Due.is("stand(30, 0)", x.stand(30, 0), 7);
        Due.is("stand(30, 1)", x.stand(30, 1), 0);
        Due.is("stand(30, 2)", x.stand(30, 2), 23);
        Due.is("stand(-1, 0)", x.stand(-1, 0), -1);
        Due.is("stand(256, 0)", x.stand(256, 0), -1);
        Due.is("stand(0, 3)", x.stand(0, 3), -1);
        Due.is("stand(0, -1)", x.stand(0, -1), -1);
    }

    private static void tornEnd() {
        AheadStore x = new AheadStore();
        x.act(1, 0);
        x.write(1, 30, 3);
        x.crash(10);
        Due.is("DOWN: ship", x.ship(999), 18);
        Due.is("DONE", x.look(16), 14);
        x.recover(0);
        Due.is("the torn end is cut off", x.look(15), 14);
        Due.is("DONE stays", x.look(16), 14);
        x.recover(-1);
        Due.is("END", x.look(1), 20);
        x.act(2, 0);
        x.write(2, 31, 8);
        x.act(2, 1);
        Due.is("ship", x.ship(999), 41);
        Due.is("stand(30, 0)", x.stand(30, 0), 0);
        Due.is("stand(31, 1)", x.stand(31, 1), 8);
    }

    private static void takeOver() {
        AheadStore x = new AheadStore();
        x.act(1, 0);
        x.act(2, 0);
        x.add(1, 0, 1);
        x.add(2, 0, 2);
        x.act(1, 3);
        x.write(1, 1, 5);
        x.act(1, 4);
        x.save(2);
        x.add(2, 0, 4);
        x.back(2, 0);
        x.write(2, 2, 9);
        x.act(2, 1);
        x.ship(999);
        Due.is("stand(0, 0)", x.stand(0, 0), 3);
        Due.is("2 is committed though its 7 is not there, 1 lost", x.stand(0, 1), 2);
        Due.is("stand(1, 1): a closed top action", x.stand(1, 1), 5);
        Due.is("stand(2, 1)", x.stand(2, 1), 9);
        Due.is("DONE", x.look(16), x.look(2));
        x.act(2, 0);
        x.write(2, 2, 8);
        x.keep(0, 0);
        x.ship(999);
        Due.is("2 has begun anew and lost", x.stand(2, 1), 9);
        Due.is("stand(2, 0)", x.stand(2, 0), 8);
        x.act(1, 2);
        x.roll(1, 1);
        x.keep(0, 0);
        x.ship(999);
        Due.is("compensations are not undone", x.stand(0, 1), 2);
        Due.is("stand(0, 0)", x.stand(0, 0), 2);
    }

    private static void asOf() {
        AheadStore x = new AheadStore();
        Due.is("no record", x.asOf(0, 8), -1);
        x.act(1, 0);
        x.write(1, 0, 5);
        x.act(1, 1);
        x.act(2, 0);
        x.add(2, 0, 6);
        x.act(2, 1);
        // 8, 14, 23 (5), 29 (7), 35, 41, 49 (5), 55 (7)
        int[][] want = {{8, 0}, {14, 0}, {23, 5}, {29, 5}, {35, 5}, {41, 5}, {49, 11}, {55, 11}};
        for (int[] w : want) {
            Due.is("asOf(0, " + w[0] + ")", x.asOf(0, w[0]), w[1]);
            Due.is("asOf(1, " + w[0] + ")", x.asOf(1, w[0]), 0);
        }
        for (int s : new int[] {-1, 0, 7, 9, 15, 61, Integer.MAX_VALUE, Integer.MIN_VALUE}) {
            Due.is("asOf(0, " + s + ")", x.asOf(0, s), -1);
        }
        Due.is("asOf(-1, 8)", x.asOf(-1, 8), -1);
        Due.is("asOf(256, 8)", x.asOf(256, 8), -1);
        Due.is("ship up to 14", x.ship(15), 23);
        Due.is("asOf(0, 23): 1 is committed", x.asOf(0, 23), 5);
        Due.is("but not by what the standby has", x.stand(0, 1), 0);
        x.crash(0);
        Due.is("DOWN, what was not flushed is gone", x.asOf(0, 55), -1);
        Due.is("DOWN", x.asOf(0, 49), 11);
    }
}
