/** Promises 22 and 23: would and victim, and the WAITS, DEADLOCKS and COSTS that tx and look tell. */
public final class ThoughtTest {
    public static void main(String[] args) {
        wouldBe();
        nothingStays();
        wouldWhenDown();
        waits();
        waitsStay();
        victims();
        Due.end("ThoughtTest");
    }

    private static AheadStore two() {
        AheadStore x = new AheadStore();
        x.act(1, 0);
        x.write(1, 0, 10);
        x.add(1, 1, 5);
        x.act(1, 1);
        x.act(2, 0);
        x.add(2, 1, 6);
        x.write(2, 200, 9);
        x.act(3, 0);
        x.write(3, 100, 4);
        // 8, 14, 23, 31 (5, FLUSHED 37), 37 (7), 43, 49, 57, 66, 72; END 81
        return x;
    }

    private static void wouldBe() {
        AheadStore x = two();
        int[][] want = {
            // m, records 4, of 7, REDONE, END, LOSERS, byte 1, byte 200
            {0, 0, 1, 2, 43, 0, 5, 0},
            {5, 0, 1, 2, 43, 0, 5, 0},
            {6, 0, 0, 2, 43, 0, 5, 0},
            {12, 0, 1, 2, 55, 4, 5, 0},
            {20, 1, 1, 3, 74, 4, 5, 0},
            {29, 2, 1, 4, 94, 4, 5, 0},
            {35, 2, 2, 4, 106, 12, 5, 0},
            {44, 3, 2, 5, 126, 12, 5, 0},
            {999, 3, 2, 5, 126, 12, 5, 0},
        };
        for (int[] w : want) {
            String with = "would(" + w[0] + ", 0, ";
            for (int k = 0; k < 3; k++) {
                Due.is(with + (256 + k) + ")", x.would(w[0], 0, 256 + k), w[1 + k]);
            }
            Due.is(with + "259)", x.would(w[0], 0, 259), 0);
            Due.is(with + "260)", x.would(w[0], 0, 260), w[4]);
            Due.is(with + "261)", x.would(w[0], 0, 261), w[5]);
            Due.is(with + "1)", x.would(w[0], 0, 1), w[6]);
            Due.is(with + "200)", x.would(w[0], 0, 200), w[7]);
            Due.is(with + "0)", x.would(w[0], 0, 0), 10);
        }
        // five records: with 1 at a time four crashes, REDONE 5, 6, 7, 8, 8 and so on
        Due.is("would(44, 1, 259)", x.would(44, 1, 259), 4);
        Due.is("would(44, 1, 258)", x.would(44, 1, 258), 5 + 6 + 7 + 8 + 8);
        Due.is("would(44, 2, 259)", x.would(44, 2, 259), 2);
        Due.is("would(44, 5, 259)", x.would(44, 5, 259), 0);
        Due.is("would(44, 4, 259)", x.would(44, 4, 259), 1);
        Due.is("would(44, 1, 256)", x.would(44, 1, 256), 3);
        Due.is("would(44, 1, 257)", x.would(44, 1, 257), 2);
        Due.is("would(44, 1, 260)", x.would(44, 1, 260), 126);
        Due.is("would(44, 1, 261)", x.would(44, 1, 261), 12);
        int[][] wrong = {{-1, 0, 0}, {1000, 0, 0}, {0, -1, 0}, {0, 10, 0}, {0, 0, -1}, {0, 0, 262}};
        for (int[] w : wrong) {
            Due.is("would(" + w[0] + ", " + w[1] + ", " + w[2] + ")", x.would(w[0], w[1], w[2]), -1);
        }
    }

    private static void nothingStays() {
        AheadStore x = two();
        x.keep(5, 7);
        x.would(999, 1, 0);
        x.would(3, 0, 0);
        int[] want = {1, 81, 37, 0, 4, 3, 12, 0, 0, 8, 0, 0, 0, 0, 128, 8, 8, 0, 10};
        for (int what = 0; what < want.length; what++) {
            Due.is("look(" + what + ")", x.look(what), want[what]);
        }
        Due.is("at(1, 0)", x.at(1, 0), 11);
        Due.is("page(0, 1)", x.page(0, 1), 0);
        Due.is("log(80)", x.log(80), (90 + 2 + 9 + 3 + 66 + 100 + 4) % 256);
    }

    private static void wouldWhenDown() {
        AheadStore x = two();
        x.crash(20);
        Due.is("m is not asked for", x.would(999, 0, 260), 74);
        Due.is("but has its bounds", x.would(1000, 0, 260), -1);
        Due.is("it crashed once", x.look(13), 1);
        Due.is("would(0, 1, 259)", x.would(0, 1, 259), 1);
        Due.is("LOSERS", x.would(0, 0, 261), 4);
        Due.is("recover", x.recover(-1), 2);
        Due.is("as thought", x.look(1), 74);
        Due.is("NEEDED, UP", x.look(9), 8);
    }

    private static void waits() {
        AheadStore x = new AheadStore();
        for (int t = 1; t <= 4; t++) {
            x.act(t, 0);
        }
        x.add(1, 0, 1);
        x.add(2, 0, 1);
        Due.no("write", x.write(3, 0, 1));
        Due.is("for all that have added", x.tx(3, 5), 6);
        x.write(4, 1, 1);
        Due.no("add", x.add(3, 1, 1));
        Due.is("what it was is gone", x.tx(3, 5), 16);
        Due.no("write", x.write(3, 0, 1));
        x.act(1, 1);
        Due.is("who ends is waited for no more", x.tx(3, 5), 4);
        x.act(2, 2);
        Due.no("write", x.write(3, 0, 1));
        Due.is("rolling back it has it yet", x.tx(3, 5), 4);
        x.roll(2, 1);
        Due.is("yet", x.tx(3, 5), 4);
        x.roll(2, 1);
        Due.is("gone", x.tx(3, 5), 0);
        Due.yes("write", x.write(3, 0, 1));
        Due.no("write", x.write(4, 0, 1));
        Due.is("waits", x.tx(4, 5), 8);
        Due.yes("add elsewhere", x.add(4, 9, 1));
        Due.is("one of it is done", x.tx(4, 5), 0);
        x.write(4, 0, 1);
        x.crash(99);
        Due.is("a CRASH: nobody waits", x.tx(4, 5), 0);
    }

    private static void waitsStay() {
        AheadStore x = new AheadStore();
        x.frames(1);
        x.act(1, 0);
        x.act(2, 0);
        x.write(1, 0, 1);
        x.save(2);
        x.write(2, 0, 1);
        x.keep(5, 9);
        Due.is("waits", x.tx(2, 5), 2);
        Due.no("refused for its bounds", x.write(2, 0, 256));
        Due.no("refused as LOST", x.write(2, 150, 1));
        Due.no("refused for the ADDRESS", x.add(2, 256, 1));
        x.save(2);
        x.act(2, 3);
        x.act(2, 4);
        x.keep(0, 0);
        Due.is("back refused", x.back(2, 7), -1);
        Due.is("it stays", x.tx(2, 5), 2);
        Due.is("back, undoing none", x.back(2, 0), 0);
        Due.is("none", x.tx(2, 5), 0);
        x.write(2, 0, 1);
        x.act(2, 2);
        Due.is("abort", x.tx(2, 5), 0);
        x.roll(2, 1);
        x.act(2, 0);
        x.write(2, 0, 1);
        Due.is("waits", x.tx(2, 5), 2);
        x.act(2, 1);
        Due.is("commit", x.tx(2, 5), 0);
    }

    private static void victims() {
        AheadStore x = new AheadStore();
        Due.is("victim", x.victim(), -1);
        for (int t = 1; t <= 5; t++) {
            x.act(t, 0);
            x.write(t, t, t);
        }
        x.write(1, 20, 1);
        x.write(2, 21, 1);
        x.write(1, 2, 9);
        x.write(2, 3, 9);
        x.write(5, 1, 9);
        Due.is("no ring", x.victim(), -1);
        Due.is("look(17)", x.look(17), 0);
        x.write(3, 1, 9);
        Due.is("1, 2, 3 in a ring; 5 waits from outside", x.look(17), 14);
        Due.is("tx(5, 7)", x.tx(5, 7), 0);
        Due.is("tx(2, 7)", x.tx(2, 7), 1);
        Due.is("the least COST", x.victim(), 3);
        x.act(3, 3);
        x.write(3, 60, 1);
        x.write(3, 61, 1);
        Due.is("a WRITE done: no ring", x.victim(), -1);
        x.write(3, 1, 9);
        Due.is("COST of 3", x.tx(3, 6), 3);
        Due.is("alike: the least number", x.victim(), 1);
        x.act(3, 4);
        Due.is("what is closed does not count", x.tx(3, 6), 1);
        Due.is("victim", x.victim(), 3);
        x.act(3, 2);
        Due.is("aborted: no ring", x.victim(), -1);
        x.roll(3, 1);
        Due.is("COST from THE CURSOR on", x.tx(3, 6), 0);
        Due.is("COST of none", x.tx(9, 6), 0);
        Due.no("write", x.write(4, 2, 1));
        Due.no("write", x.write(2, 4, 1));
        Due.is("2 and 4", x.look(17), 20);
        Due.is("the lesser COST, not the lesser number", x.victim(), 4);
    }
}
