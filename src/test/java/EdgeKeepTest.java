import java.util.function.Consumer;

/** The edges of promise 9, and of CHECKPOINTS and the ARCHIVE (term 4). */
public final class EdgeKeepTest {
    private static final int[] NO_PAGE = {-1, 16, 17, 32, Integer.MIN_VALUE, Integer.MAX_VALUE};

    public static void main(String[] args) {
        otherWhats();
        flushWhereNoneBegins();
        flushOfAnEmptyLog();
        flushedAtLeast();
        noSuchPage();
        writtenInNoFrame();
        writtenClean();
        checkpointTwice();
        checkpointNotOpen();
        checkpointNotAskedForV();
        crashClosesACheckpoint();
        dumpOfTheDisk();
        dumpOfALost();
        loseTwice();
        loseInAFrame();
        loseClaimed();
        loseAll();
        restoreNotLost();
        restoreWithoutADump();
        restoreBehindADump();
        restoreFlushesWhole();
        restoreLeavesTheArchive();
        lostStaysOverACrash();
        Due.end("EdgeKeepTest");
    }

    /** PAGES 0 and 1 in the two FRAMES, 2 on DISK and free, 3 LOST; 1 and 2 are running. */
    private static void some(AheadStore x) {
        x.frames(2);
        x.act(1, 0);
        x.write(1, 32, 4);
        x.write(1, 48, 4);
        x.act(1, 1);
        x.act(1, 0);
        x.act(2, 0);
        x.write(1, 0, 1);
        x.add(2, 16, 1);
        x.keep(5, 3);
    }

    /** "or another what" */
    private static void otherWhats() {
        for (int what : new int[] {-1, 7, 8, Integer.MIN_VALUE, Integer.MAX_VALUE}) {
            for (int v : new int[] {0, 3, 8}) {
                Whole.refused("keep(" + what + ", " + v + ")", EdgeKeepTest::some, x -> x.keep(what, v));
            }
        }
    }

    /** "0: no record in the log begins there" */
    private static void flushWhereNoneBegins() {
        Consumer<AheadStore> made = x -> {
            x.act(1, 0);
            x.write(1, 0, 1);
            x.add(1, 0, 1);
        };
        for (int v : new int[] {1, 7, 9, 13, 15, 22, 30, 31, 32, -1, -8, Integer.MIN_VALUE, Integer.MAX_VALUE}) {
            Whole.refused("keep(0, " + v + ")", made, x -> x.keep(0, v));
        }
        int[][] stamps = {{8, 14}, {14, 23}, {23, 31}};
        for (int[] w : stamps) {
            AheadStore x = new AheadStore();
            made.accept(x);
            Due.yes("keep(0, " + w[0] + ")", x.keep(0, w[0]));
            Due.is("FLUSHED", x.look(2), w[1]);
        }
    }

    /** "(0: whole)": an empty log, too */
    private static void flushOfAnEmptyLog() {
        Whole.unchanged("keep(0, 0), empty", x -> { }, x -> Whole.flag(x.keep(0, 0)), 1);
        Whole.refused("keep(0, 8), empty", x -> { }, x -> x.keep(0, 8));
    }

    /** "FLUSHED is where it ends at least" */
    private static void flushedAtLeast() {
        Consumer<AheadStore> made = x -> {
            x.act(1, 0);
            x.write(1, 0, 1);
            x.keep(0, 14);
            x.write(1, 0, 1);
        };
        Whole.unchanged("keep(0, 8) behind keep(0, 14)", made, x -> Whole.flag(x.keep(0, 8)), 1);
        Whole.unchanged("keep(0, 14) again", made, x -> Whole.flag(x.keep(0, 14)), 1);
    }

    /** PAGES 0 .. 15 */
    private static void noSuchPage() {
        for (int p : NO_PAGE) {
            for (int what : new int[] {1, 4, 5, 6}) {
                Whole.refused("keep(" + what + ", " + p + ")", EdgeKeepTest::some, x -> x.keep(what, p));
            }
        }
        AheadStore x = new AheadStore();
        x.act(1, 0);
        x.write(1, 255, 1);
        Due.yes("PAGE 15 written", x.keep(1, 15));
        Due.yes("PAGE 15 dumped", x.keep(4, 15));
        Due.yes("PAGE 0 dumped", x.keep(4, 0));
        Due.yes("PAGE 0 lost", x.keep(5, 0));
        Due.yes("PAGE 0 restored", x.keep(6, 0));
    }

    /** "1: it is in no FRAME" */
    private static void writtenInNoFrame() {
        Whole.refused("PAGE 2 written, in no FRAME", EdgeKeepTest::some, x -> x.keep(1, 2));
        Whole.refused("PAGE 3 written, LOST", EdgeKeepTest::some, x -> x.keep(1, 3));
        Whole.refused("PAGE 0 written, new", x -> { }, x -> x.keep(1, 0));
    }

    /** "or clean" */
    private static void writtenClean() {
        Consumer<AheadStore> clean = x -> {
            some(x);
            x.keep(1, 0);
        };
        Whole.refused("PAGE 0 written, clean", clean, x -> x.keep(1, 0));
        AheadStore x = new AheadStore();
        clean.accept(x);
        Due.is("not clean", x.look(5), 1);
        x.write(1, 1, 1);
        Due.is("not clean", x.look(5), 2);
        Due.yes("PAGE 0 written anew", x.keep(1, 0));
    }

    /** "2: one is open" */
    private static void checkpointTwice() {
        Consumer<AheadStore> open = x -> {
            some(x);
            x.keep(2, 0);
        };
        Whole.refused("a checkpoint begins, one is open", open, x -> x.keep(2, 0));
    }

    /** "3: none is open" */
    private static void checkpointNotOpen() {
        Whole.refused("a checkpoint ends, none is open", EdgeKeepTest::some, x -> x.keep(3, 0));
        Consumer<AheadStore> ended = x -> {
            some(x);
            x.keep(2, 0);
            x.keep(3, 0);
        };
        Whole.refused("a checkpoint ends twice", ended, x -> x.keep(3, 0));
        AheadStore x = new AheadStore();
        ended.accept(x);
        Due.yes("the next begins", x.keep(2, 0));
        Due.yes("and ends", x.keep(3, 0));
    }

    /** "(2, 3: v not asked)" */
    private static void checkpointNotAskedForV() {
        for (int v : NO_PAGE) {
            AheadStore x = new AheadStore();
            Due.yes("keep(2, " + v + ")", x.keep(2, v));
            Due.yes("keep(3, " + v + ")", x.keep(3, v));
            Due.is("MASTER", x.look(3), 8);
        }
    }

    /** "A crash closes one without an end." */
    private static void crashClosesACheckpoint() {
        Consumer<AheadStore> crashed = x -> {
            x.keep(2, 0);
            x.keep(0, 0);
            x.crash(0);
            x.recover(-1);
        };
        Whole.refused("its end", crashed, x -> x.keep(3, 0));
        AheadStore x = new AheadStore();
        crashed.accept(x);
        Due.is("open", x.look(8), 0);
        Due.is("the record stays", x.count(8), 1);
        Due.yes("another begins", x.keep(2, 0));
        Due.is("open", x.look(8), 14);
    }

    /** "of each PAGE a copy of what is on DISK (bytes, STAMP), whatever a FRAME holds .. (all 0 at first)" */
    private static void dumpOfTheDisk() {
        AheadStore x = new AheadStore();
        x.act(1, 0);
        Due.is("at first", x.page(0, 5), 0);
        x.write(1, 0, 1);
        x.keep(1, 0);
        x.write(1, 0, 2);
        Due.yes("dumped", x.keep(4, 0));
        Due.is("STAMP of the DISK", x.page(0, 5), 14);
        Due.is("the FRAME stays as it was", x.page(0, 3), 23);
        Due.is("the log is not flushed by it", x.look(2), 23);
        x.keep(1, 0);
        Due.yes("dumped anew", x.keep(4, 0));
        Due.is("STAMP", x.page(0, 5), 23);
        Due.yes("dumped once more", x.keep(4, 0));
        Due.is("STAMP", x.page(0, 5), 23);
    }

    /** "4: LOST" */
    private static void dumpOfALost() {
        Whole.refused("PAGE 3 dumped, LOST", EdgeKeepTest::some, x -> x.keep(4, 3));
    }

    /** "5: LOST" */
    private static void loseTwice() {
        Whole.refused("PAGE 3 lost, LOST", EdgeKeepTest::some, x -> x.keep(5, 3));
    }

    /** "in a FRAME": clean, and of no transaction, too */
    private static void loseInAFrame() {
        Consumer<AheadStore> made = x -> {
            x.act(1, 0);
            x.write(1, 0, 1);
            x.act(1, 1);
        };
        Whole.refused("PAGE 0 lost, in a FRAME", made, x -> x.keep(5, 0));
        Whole.refused("PAGE 0 lost, clean in a FRAME", made.andThen(x -> x.keep(1, 0)), x -> x.keep(5, 0));
    }

    /** "written or added to by one": undone or not, rolling back or not, till it ends */
    private static void loseClaimed() {
        Consumer<AheadStore> made = x -> {
            x.frames(1);
            x.act(1, 0);
            x.act(2, 0);
            x.save(1);
            x.write(1, 15, 1);
            x.back(1, 0);
            x.add(2, 16, 1);
            x.act(2, 2);
            x.act(3, 0);
            x.write(3, 64, 1);
        };
        Whole.refused("PAGE 0 lost, written to, undone", made, x -> x.keep(5, 0));
        Whole.refused("PAGE 1 lost, added to, rolling back", made, x -> x.keep(5, 1));
        AheadStore x = new AheadStore();
        made.accept(x);
        x.act(1, 1);
        Due.yes("PAGE 0 lost, it has ended", x.keep(5, 0));
        x.roll(2, 1);
        x.write(3, 65, 1);
        Due.no("PAGE 1 lost, all is undone, it is yet there", x.keep(5, 1));
        x.roll(2, 1);
        Due.yes("PAGE 1 lost, it is gone", x.keep(5, 1));
    }

    /** All sixteen can be LOST. */
    private static void loseAll() {
        AheadStore x = new AheadStore();
        for (int p = 0; p < 16; p++) {
            Due.yes("PAGE " + p + " lost", x.keep(5, p));
        }
        Due.is("LOST", x.look(14), 65535);
        x.act(1, 0);
        Due.no("write", x.write(1, 0, 1));
        Due.no("write", x.write(1, 255, 1));
        for (int p = 15; p >= 0; p--) {
            Due.yes("PAGE " + p + " restored", x.keep(6, p));
            Due.is("LOST", x.look(14), (1 << p) - 1);
        }
    }

    /** "6: not LOST" */
    private static void restoreNotLost() {
        Whole.refused("PAGE 2 restored, not LOST", EdgeKeepTest::some, x -> x.keep(6, 2));
        Whole.refused("PAGE 0 restored, in a FRAME", EdgeKeepTest::some, x -> x.keep(6, 0));
    }

    /** 1 writes and adds in PAGE 0 and commits; PAGE 1 takes the one FRAME. */
    private static AheadStore told() {
        AheadStore x = new AheadStore();
        x.frames(1);
        x.act(1, 0);
        x.write(1, 0, 200);
        x.add(1, 15, 255);
        x.write(1, 16, 9);
        return x;
    }

    /** Never dumped: all 0, and each record from 8 on is done. */
    private static void restoreWithoutADump() {
        AheadStore x = told();
        x.act(1, 1);
        x.keep(5, 0);
        Due.is("at(0, 1)", x.at(0, 1), 0);
        Due.yes("restored", x.keep(6, 0));
        Due.is("at(0, 1)", x.at(0, 1), 200);
        Due.is("at(15, 1)", x.at(15, 1), 255);
        Due.is("STAMP", x.page(0, 1), 23);
        Due.is("LOST", x.page(0, 4), 0);
        AheadStore y = new AheadStore();
        y.keep(5, 7);
        Due.yes("restored without any record", y.keep(6, 7));
        Due.is("STAMP", y.page(7, 1), 0);
    }

    /** "whose STAMP is above the PAGE's": those that the ARCHIVE has are not done twice */
    private static void restoreBehindADump() {
        AheadStore x = told();
        x.keep(4, 0);
        x.add(1, 15, 3);
        x.write(1, 16, 8);
        x.act(1, 1);
        x.keep(5, 0);
        Due.yes("restored", x.keep(6, 0));
        Due.is("at(15, 1): 255 of the ARCHIVE, 3 more", x.at(15, 1), 2);
        Due.is("at(0, 1)", x.at(0, 1), 200);
        Due.is("STAMP", x.page(0, 1), 40);
        AheadStore y = told();
        y.keep(4, 0);
        y.act(1, 1);
        y.keep(5, 0);
        y.keep(6, 0);
        Due.is("nothing above it: as it was dumped", y.at(15, 1), 255);
        Due.is("STAMP", y.page(0, 1), 23);
    }

    /** "the log is flushed whole" */
    private static void restoreFlushesWhole() {
        AheadStore x = told();
        x.act(2, 0);
        x.keep(5, 9);
        Due.is("FLUSHED", x.look(2), 31);
        Due.yes("restored", x.keep(6, 9));
        Due.is("FLUSHED", x.look(2), 46);
        Due.is("END", x.look(1), 46);
    }

    /** RESTORE reads the ARCHIVE alone. */
    private static void restoreLeavesTheArchive() {
        AheadStore x = told();
        x.act(1, 1);
        x.keep(5, 0);
        x.keep(6, 0);
        Due.is("STAMP in the ARCHIVE", x.page(0, 5), 0);
        Due.yes("lost again", x.keep(5, 0));
        Due.yes("restored again", x.keep(6, 0));
        Due.is("at(0, 1)", x.at(0, 1), 200);
    }

    /** DOWN it is LOST yet; RECOVER restores it. */
    private static void lostStaysOverACrash() {
        AheadStore x = told();
        x.act(1, 1);
        x.keep(5, 0);
        x.keep(5, 15);
        x.crash(0);
        Due.is("LOST", x.look(14), 32769);
        Due.is("at(0, 0)", x.at(0, 0), 0);
        x.recover(0);
        Due.is("restored, though recovery crashed in itself", x.look(14), 0);
        Due.is("DOWN", x.look(0), 0);
        Due.is("at(0, 1)", x.at(0, 1), 200);
        Due.is("STAMP", x.page(0, 1), 23);
    }
}
