/** Promises 10 and 11: crash and recover; torn ends, analysis, redo guarded by stamps, undo, its own crashes. */
public final class CrashTest {
    public static void main(String[] args) {
        wrongInputs();
        tornEnds();
        committed();
        committedByNumber();
        stamps();
        losers();
        crashedInItself();
        fromTheCheckpoint();
        lostPages();
        Due.end("CrashTest");
    }

    private static void wrongInputs() {
        AheadStore x = new AheadStore();
        Due.no("crash(-1)", x.crash(-1));
        Due.no("crash(1000)", x.crash(1000));
        Due.is("recover, UP", x.recover(-1), -1);
        Due.yes("crash(999)", x.crash(999));
        Due.no("crash, DOWN", x.crash(0));
        Due.is("look(13)", x.look(13), 1);
        Due.is("recover(-2)", x.recover(-2), -1);
        Due.is("recover(100)", x.recover(100), -1);
        Due.is("yet DOWN", x.look(0), 0);
        Due.is("recover(99)", x.recover(99), 0);
        Due.is("UP", x.look(0), 1);
    }

    private static AheadStore some() {
        AheadStore x = new AheadStore();
        x.act(1, 0);
        x.write(1, 0, 1);
        x.keep(0, 0);
        x.write(1, 1, 2);
        x.write(1, 2, 3);
        return x;
    }

    private static void tornEnds() {
        int[][] want = {{0, 23, 23}, {1, 24, 23}, {8, 31, 23}, {9, 32, 32}, {10, 33, 32}, {17, 40, 32}, {18, 41, 41}, {999, 41, 41}};
        for (int[] w : want) {
            AheadStore x = some();
            Due.yes("crash(" + w[0] + ")", x.crash(w[0]));
            Due.is("END behind crash(" + w[0] + ")", x.look(1), w[1]);
            Due.is("FLUSHED", x.look(2), w[1]);
            Due.is("running", x.look(6), 0);
            Due.is("tx(1, 1)", x.tx(1, 1), 0);
            Due.is("FRAMES", x.page(0, 2), -1);
            Due.is("at(0, 0)", x.at(0, 0), 0);
            Due.is("at(0, 2)", x.at(0, 2), 0);
            Due.is("recover(0)", x.recover(0), 0);
            Due.is("END behind the cut", x.look(1), w[2]);
            Due.is("FLUSHED", x.look(2), w[2]);
            Due.is("REDONE", x.look(12), (w[2] - 14) / 9);
            Due.is("it crashed anew", x.look(13), 2);
            Due.is("DOWN", x.look(0), 0);
        }
    }

    private static void committed() {
        AheadStore x = some();
        x.act(1, 1);
        x.act(2, 0);
        Due.yes("crash", x.crash(3));
        Due.is("END", x.look(1), 50);
        Due.is("recover(0)", x.recover(0), 0);
        Due.is("DOWN: a record 7 is yet to write", x.look(0), 0);
        Due.is("recover(1)", x.recover(1), 1);
        Due.is("UP", x.look(0), 1);
        Due.is("record 7 in place of the torn one", x.record(47, 0), 7);
        Due.is("its PREV", x.record(47, 3), 41);
        Due.is("it is flushed", x.look(2), 53);
        Due.is("at(2, 0)", x.at(2, 0), 3);
        Due.is("REDONE", x.look(12), 3);
        Due.is("REC", x.page(0, 3), 14);
        Due.is("STAMP", x.page(0, 0), 32);
        Due.is("running", x.look(6) | x.look(7), 0);
    }

    private static void committedByNumber() {
        AheadStore x = new AheadStore();
        for (int t = 9; t >= 7; t--) {
            x.act(t, 0);
            x.write(t, t, t);
        }
        x.act(9, 1);
        x.crash(0);
        Due.is("7 for 9 first, then 7, 8 are undone", x.recover(-1), 5);
        Due.is("KIND", x.record(59, 0), 7);
        Due.is("WHO", x.record(59, 2), 9);
        Due.is("then the latest of 7", x.record(65, 2), 7);
        Due.is("at(9, 0)", x.at(9, 0), 9);
        Due.is("at(8, 0)", x.at(8, 0), 0);
    }

    private static void stamps() {
        AheadStore x = some();
        x.keep(1, 0);
        x.add(1, 0, 4);
        x.act(1, 1);
        x.crash(99);
        Due.is("record 7 was there", x.recover(0), 0);
        Due.is("REDONE: what DISK has not yet", x.look(12), 1);
        Due.is("at(0, 0)", x.at(0, 0), 5);
        Due.is("REC", x.page(0, 3), 41);
        x.crash(0);
        Due.is("again", x.recover(-1), 0);
        Due.is("REDONE again", x.look(12), 1);
        Due.is("at(0, 0)", x.at(0, 0), 5);
        x.keep(1, 0);
        x.crash(0);
        x.recover(-1);
        Due.is("REDONE: none", x.look(12), 0);
        Due.is("the PAGE was fetched", x.page(0, 2), 0);
        Due.is("clean", x.page(0, 3), 0);
    }

    private static void losers() {
        AheadStore x = new AheadStore();
        x.act(1, 0);
        x.act(2, 0);
        x.add(1, 0, 1);
        x.add(2, 0, 2);
        x.write(1, 1, 7);
        x.act(2, 2);
        x.keep(0, 0);
        // 1: 8, 20, 36; 2: 14, 28, 45 (6); END 51
        Due.is("END", x.look(1), 51);
        x.crash(0);
        Due.is("recover", x.recover(-1), 5);
        Due.is("first 36 of 1", x.record(51, 2), 1);
        Due.is("NEXT", x.record(51, 4), 20);
        Due.is("then 28 of 2", x.record(62, 2), 2);
        Due.is("its PREV is 6", x.record(62, 3), 45);
        Due.is("then 20 of 1", x.record(73, 2), 1);
        Due.is("its PREV", x.record(73, 3), 51);
        Due.is("both at 0: the least number", x.record(84, 2), 1);
        Due.is("KIND 7", x.record(84, 0), 7);
        Due.is("2 as the last", x.record(90, 2), 2);
        Due.is("END", x.look(1), 96);
        Due.is("FLUSHED", x.look(2), 96);
        Due.is("at(0, 0)", x.at(0, 0), 0);
        Due.is("at(1, 0)", x.at(1, 0), 0);
    }

    private static void crashedInItself() {
        AheadStore x = some();
        x.keep(0, 0);
        x.crash(0);
        for (int i = 0; i < 3; i++) {
            Due.is("recover(1)", x.recover(1), 1);
            Due.is("DOWN", x.look(0), 0);
            Due.is("REDONE", x.look(12), 3 + i);
            Due.is("records 4", x.count(4), i + 1);
        }
        Due.is("recover(0)", x.recover(0), 0);
        Due.is("recover(1): through with its last record", x.recover(1), 1);
        Due.is("UP", x.look(0), 1);
        Due.is("crashes", x.look(13), 5);
        Due.is("records 4: none is undone", x.count(4), 3);
        Due.is("records 7", x.count(7), 1);
        x.crash(0);
        Due.is("nothing left", x.recover(0), 0);
        Due.is("UP", x.look(0), 1);

        AheadStore y = new AheadStore();
        y.frames(1);
        y.act(1, 0);
        y.write(1, 0, 1);
        y.write(1, 16, 1);
        y.keep(0, 0);
        y.crash(0);
        y.recover(1);
        Due.is("no PAGE was fetched for the next one", y.page(1, 1), 0);
        Due.is("redo and the first one fetched PAGE 0, 1", y.page(0, 1), 14);
    }

    private static void fromTheCheckpoint() {
        AheadStore x = new AheadStore();
        x.act(1, 0);
        x.write(1, 0, 1);
        x.act(2, 0);
        x.write(2, 16, 1);
        x.keep(1, 1);
        x.keep(2, 0);
        x.act(3, 0);
        x.write(3, 32, 1);
        x.act(3, 1);
        x.keep(3, 0);
        x.write(2, 17, 5);
        x.keep(0, 0);
        x.crash(0);
        Due.is("recover", x.recover(-1), 5);
        Due.is("REDONE: 14 of REC told, 50 behind 8, 17 behind 10; not 29", x.look(12), 3);
        Due.is("at(0, 0)", x.at(0, 0), 0);
        Due.is("at(16, 0)", x.at(16, 0), 0);
        Due.is("at(17, 0)", x.at(17, 0), 0);
        Due.is("at(32, 0)", x.at(32, 0), 1);
        Due.is("MASTER as it was", x.look(3), 38);
    }

    private static void lostPages() {
        AheadStore x = new AheadStore();
        x.frames(1);
        x.act(1, 0);
        x.write(1, 3, 4);
        x.write(1, 19, 5);
        x.act(1, 1);
        x.act(2, 0);
        x.write(2, 35, 6);
        Due.yes("PAGE 0 lost", x.keep(5, 0));
        Due.yes("PAGE 1 lost", x.keep(5, 1));
        x.crash(0);
        Due.is("LOST, DOWN", x.look(14), 3);
        Due.is("recover", x.recover(-1), 1);
        Due.is("at(3, 1)", x.at(3, 1), 4);
        Due.is("at(19, 1)", x.at(19, 1), 5);
        Due.is("page(1, 1)", x.page(1, 1), 23);
        Due.is("LOST", x.look(14), 0);
        Due.is("nothing to be redone", x.look(12), 0);
    }
}
