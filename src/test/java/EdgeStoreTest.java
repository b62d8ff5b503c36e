import java.util.function.Consumer;

/**
 * The edges of THE STORE (term 1) and of promises 1, 2, 17, 18: a test for each sentence that names one,
 * with the sentence above it.
 */
public final class EdgeStoreTest {
    private static final int[] FAR = {Integer.MIN_VALUE, Integer.MIN_VALUE + 1, -17, -16, Integer.MAX_VALUE};

    public static void main(String[] args) {
        framesTooFewOrTooMany();
        framesWhenOneHolds();
        framesWhenDown();
        framesBehindRecovery();
        addressesOfPages();
        emptyAtFirst();
        leastThatHoldsNone();
        stolenOnlyWhenAllHold();
        longestAgo();
        usedByNothingElse();
        refusedWritesFetchNothing();
        uncleanIsWrittenFirst();
        flushedThroughItsRecordOnly();
        cleanIsNotWritten();
        comesOffTheDisk();
        oneFrame();
        eightFrames();
        recFirstMadeUnlike();
        atWrongInputs();
        pageWrongInputs();
        lostPageTold();
        setsOfAll();
        Due.end("EdgeStoreTest");
    }

    private static void begun(AheadStore x) {
        x.act(1, 0);
    }

    /** "(1 .. 8): true; false if one can't be" */
    private static void framesTooFewOrTooMany() {
        for (int n = 1; n <= 8; n++) {
            AheadStore x = new AheadStore();
            Due.yes("frames(" + n + ")", x.frames(n));
            Due.is("look(4)", x.look(4), n);
        }
        for (int n : new int[] {0, 9, -1, Integer.MIN_VALUE, Integer.MAX_VALUE}) {
            Whole.refused("frames(" + n + ")", x -> x.frames(3), x -> x.frames(n));
        }
    }

    /** "false if .. one holds a PAGE": a clean one, one of a transaction that ended, too */
    private static void framesWhenOneHolds() {
        Consumer<AheadStore> written = x -> {
            x.act(1, 0);
            x.write(1, 100, 1);
        };
        Whole.refused("frames(4), one is not clean", written, x -> x.frames(4));
        Whole.refused("frames(5), clean", written.andThen(x -> x.keep(1, 6)), x -> x.frames(5));
        Whole.refused("frames(5), ended", written.andThen(x -> x.act(1, 1)), x -> x.frames(5));
        AheadStore x = new AheadStore();
        x.act(1, 0);
        x.write(1, -1, 1);
        x.save(1);
        x.keep(2, 0);
        x.keep(3, 0);
        x.keep(4, 0);
        x.keep(5, 0);
        x.keep(6, 0);
        Due.yes("frames(5): so far nothing was fetched", x.frames(5));
    }

    /** "or DOWN" */
    private static void framesWhenDown() {
        Whole.refused("frames(5), DOWN", x -> x.crash(0), x -> x.frames(5));
    }

    /** FRAMES hold none behind a CRASH, and recovery fetches only what a record is for. */
    private static void framesBehindRecovery() {
        AheadStore x = new AheadStore();
        x.act(1, 0);
        x.write(1, 0, 1);
        x.crash(0);
        x.recover(-1);
        Due.yes("frames(7): the record was not flushed", x.frames(7));
        x.act(1, 0);
        x.crash(6);
        Due.is("a record 7", x.recover(-1), 1);
        Due.yes("frames(6): a record 7 fetches none", x.frames(6));
        Due.is("look(4)", x.look(4), 6);
    }

    /** "PAGE a by 16 (0 .. 15) has them" */
    private static void addressesOfPages() {
        int[][] pages = {{0, 0}, {15, 0}, {16, 1}, {31, 1}, {127, 7}, {128, 8}, {239, 14}, {240, 15}, {255, 15}};
        for (int[] w : pages) {
            AheadStore x = new AheadStore();
            begun(x);
            Due.yes("write at " + w[0], x.write(1, w[0], 7));
            for (int p = 0; p < 16; p++) {
                Due.is("FRAME of PAGE " + p + " for " + w[0], x.page(p, 2), p == w[1] ? 0 : -1);
                Due.is("STAMP of PAGE " + p, x.page(p, 0), p == w[1] ? 14 : 0);
            }
            Due.is("at(" + w[0] + ", 0)", x.at(w[0], 0), 7);
            Due.is("the one ahead", x.at(w[0] - 1, 0), w[0] == 0 ? -1 : 0);
            Due.is("the one behind", x.at(w[0] + 1, 0), w[0] == 255 ? -1 : 0);
        }
    }

    /** "(4 at first ..): each holds .. none (none at first)"; "(0 at first, all bytes 0)" */
    private static void emptyAtFirst() {
        AheadStore x = new AheadStore();
        Due.is("FRAMES", x.look(4), 4);
        Due.is("not clean", x.look(5), 0);
        for (int p = 0; p < 16; p++) {
            Due.is("FRAME of PAGE " + p, x.page(p, 2), -1);
            Due.is("STAMP on DISK of PAGE " + p, x.page(p, 1), 0);
        }
    }

    /** "else the least FRAME that holds none" */
    private static void leastThatHoldsNone() {
        AheadStore x = new AheadStore();
        begun(x);
        int[] pages = {9, 2, 15, 0};
        for (int i = 0; i < 4; i++) {
            x.write(1, 16 * pages[i], 1);
            Due.is("FRAME of PAGE " + pages[i], x.page(pages[i], 2), i);
        }
    }

    /** "or, if all do": nothing goes to DISK as long as one holds none */
    private static void stolenOnlyWhenAllHold() {
        AheadStore x = new AheadStore();
        begun(x);
        for (int p = 0; p < 4; p++) {
            x.write(1, 16 * p, 1);
        }
        Due.is("FLUSHED", x.look(2), 8);
        Due.is("not clean", x.look(5), 4);
        x.write(1, 64, 1);
        Due.is("PAGE 0 went", x.page(0, 2), -1);
        Due.is("PAGE 4 is in its FRAME", x.page(4, 2), 0);
        Due.is("not clean", x.look(5), 4);
        Due.is("FLUSHED", x.look(2), 23);
    }

    /** "that whose use is longest ago" */
    private static void longestAgo() {
        AheadStore x = new AheadStore();
        begun(x);
        for (int p : new int[] {0, 1, 2, 3, 0, 2}) {
            x.add(1, 16 * p, 1);
        }
        x.add(1, 64, 1);
        Due.is("PAGE 1 went first", x.page(1, 2), -1);
        x.add(1, 80, 1);
        Due.is("then PAGE 3", x.page(3, 2), -1);
        x.add(1, 96, 1);
        Due.is("then PAGE 0", x.page(0, 2), -1);
        x.add(1, 112, 1);
        Due.is("then PAGE 2", x.page(2, 2), -1);
        Due.is("PAGE 4 stays", x.page(4, 2), 1);
    }

    private static void stays(String name, Consumer<AheadStore> between) {
        AheadStore x = new AheadStore();
        x.frames(2);
        x.act(1, 0);
        x.act(2, 0);
        x.write(1, 0, 1);
        x.write(1, 16, 1);
        between.accept(x);
        x.write(1, 32, 1);
        Due.is(name + " did not use PAGE 0", x.page(0, 2), -1);
        Due.is(name + ": PAGE 1 stays", x.page(1, 2), 1);
    }

    /** "that is used now (nothing else uses one)" */
    private static void usedByNothingElse() {
        stays("nothing", x -> { });
        stays("at", x -> x.at(0, 0));
        stays("page", x -> x.page(0, 0));
        stays("keep(1, 0)", x -> x.keep(1, 0));
        stays("keep(4, 0)", x -> x.keep(4, 0));
        stays("a refused keep(5, 0)", x -> x.keep(5, 0));
        stays("a checkpoint", x -> {
            x.keep(2, 0);
            x.keep(3, 0);
        });
        stays("would", x -> x.would(999, 1, 0));
        stays("ship", x -> {
            x.keep(0, 0);
            x.ship(999);
        });
        stays("stand, asOf", x -> {
            x.stand(0, 1);
            x.asOf(0, 20);
        });
        stays("image", x -> {
            x.image(true);
            x.image(false);
        });
        stays("commit", x -> {
            x.act(2, 1);
        });
        AheadStore x = new AheadStore();
        x.frames(2);
        begun(x);
        x.write(1, 0, 1);
        x.write(1, 16, 1);
        x.write(1, 1, 1);
        x.write(1, 32, 1);
        Due.is("a WRITE used PAGE 0", x.page(0, 2), 0);
    }

    /** A WRITE or ADD that is refused fetches no PAGE. */
    private static void refusedWritesFetchNothing() {
        stays("a WRITE refused for another", x -> x.write(2, 0, 1));
        stays("an ADD refused for another", x -> x.add(2, 0, 1));
        stays("a WRITE refused for its byte", x -> x.write(1, 0, 256));
        stays("an ADD refused for its byte", x -> x.add(1, 0, 0));
        stays("a WRITE of none", x -> x.write(3, 1, 1));
    }

    /** "is it not clean, its PAGE IS WRITTEN: .. bytes and STAMP go to DISK, REC 0" */
    private static void uncleanIsWrittenFirst() {
        AheadStore x = new AheadStore();
        x.frames(1);
        begun(x);
        x.write(1, 5, 9);
        x.add(1, 5, 250);
        x.write(1, 16, 1);
        Due.is("byte on DISK", x.at(5, 1), 3);
        Due.is("byte", x.at(5, 0), 3);
        Due.is("STAMP on DISK", x.page(0, 1), 23);
        Due.is("REC", x.page(0, 3), 0);
        Due.is("byte of PAGE 1 on DISK", x.at(16, 1), 0);
    }

    /** "the log is flushed through the record of its STAMP": no record less, none more */
    private static void flushedThroughItsRecordOnly() {
        AheadStore x = new AheadStore();
        x.frames(2);
        begun(x);
        x.write(1, 0, 1);
        x.write(1, 16, 1);
        x.write(1, 17, 1);
        x.write(1, 32, 1);
        Due.is("through 14", x.look(2), 23);
        Due.is("END", x.look(1), 50);
        x.keep(0, 0);
        x.write(1, 33, 1);
        x.write(1, 48, 1);
        Due.is("FLUSHED never goes back", x.look(2), 50);
    }

    /** A clean one is not written when its FRAME is taken. */
    private static void cleanIsNotWritten() {
        AheadStore x = new AheadStore();
        x.frames(1);
        begun(x);
        x.write(1, 0, 1);
        x.keep(1, 0);
        x.act(2, 0);
        Due.is("FLUSHED", x.look(2), 23);
        x.write(1, 16, 1);
        Due.is("FLUSHED as it was", x.look(2), 23);
        Due.is("STAMP on DISK", x.page(0, 1), 14);
    }

    /** "then the PAGE comes off the DISK into it (clean)" */
    private static void comesOffTheDisk() {
        AheadStore x = new AheadStore();
        x.frames(1);
        begun(x);
        x.write(1, 0, 1);
        x.write(1, 1, 2);
        x.write(1, 16, 3);
        x.write(1, 2, 4);
        Due.is("what it was", x.at(0, 0), 1);
        Due.is("WAS", x.log(41 + 6), 0);
        Due.is("REC is that of the new record alone", x.page(0, 3), 41);
        Due.is("STAMP", x.page(0, 0), 41);
        Due.is("STAMP on DISK", x.page(0, 1), 23);
        x.write(1, 0, 5);
        Due.is("WAS", x.log(50 + 6), 1);
    }

    /** One FRAME alone: each other PAGE takes it. */
    private static void oneFrame() {
        AheadStore x = new AheadStore();
        x.frames(1);
        begun(x);
        for (int i = 0; i < 16; i++) {
            Due.yes("write", x.write(1, 16 * i, i + 1));
            Due.is("FRAME 0", x.page(i, 2), 0);
            Due.is("not clean", x.look(5), 1);
            Due.is("FLUSHED through the one ahead", x.look(2), i == 0 ? 8 : 14 + 9 * i);
        }
        for (int i = 0; i < 15; i++) {
            Due.is("on DISK", x.at(16 * i, 1), i + 1);
        }
        Due.is("not yet", x.at(240, 1), 0);
    }

    /** Eight FRAMES: the ninth PAGE is the first that steals. */
    private static void eightFrames() {
        AheadStore x = new AheadStore();
        x.frames(8);
        begun(x);
        for (int i = 0; i < 8; i++) {
            x.write(1, 16 * (15 - i), 1);
        }
        Due.is("not clean", x.look(5), 8);
        Due.is("FLUSHED", x.look(2), 8);
        Due.is("the eighth FRAME", x.page(8, 2), 7);
        x.write(1, 0, 1);
        Due.is("PAGE 15 went", x.page(15, 2), -1);
        Due.is("FLUSHED", x.look(2), 23);
        Due.is("not clean", x.look(5), 8);
    }

    /** "REC (the STAMP that first made it unlike the DISK's; 0: it is clean)" */
    private static void recFirstMadeUnlike() {
        AheadStore x = new AheadStore();
        begun(x);
        Due.is("in none", x.page(0, 3), 0);
        x.write(1, 0, 1);
        x.write(1, 0, 0);
        Due.is("the first, though the bytes are those of the DISK", x.page(0, 3), 14);
        x.keep(1, 0);
        Due.is("clean", x.page(0, 3), 0);
        x.write(1, 0, 0);
        Due.is("unlike by its STAMP", x.page(0, 3), 32);
    }

    /** "NONE if there is none such, or another what" */
    private static void atWrongInputs() {
        Consumer<AheadStore> made = x -> {
            x.act(1, 0);
            x.write(1, 0, 1);
            x.write(1, 255, 1);
        };
        for (int a : new int[] {-1, 256, -256, 65536, Integer.MIN_VALUE, Integer.MAX_VALUE}) {
            for (int what = 0; what < 4; what++) {
                AheadStore x = new AheadStore();
                made.accept(x);
                Due.is("at(" + a + ", " + what + ")", x.at(a, what), -1);
            }
        }
        for (int what : new int[] {-1, 4, Integer.MIN_VALUE, Integer.MAX_VALUE}) {
            Whole.none("at(0, " + what + ")", made, x -> x.at(0, what));
            Whole.none("at(255, " + what + ")", made, x -> x.at(255, what));
        }
    }

    /** "NONE if there is none such, or another what" */
    private static void pageWrongInputs() {
        Consumer<AheadStore> made = x -> {
            x.act(1, 0);
            x.write(1, 0, 1);
            x.write(1, 255, 1);
        };
        for (int p : new int[] {-1, 16, 32, Integer.MIN_VALUE, Integer.MAX_VALUE}) {
            for (int what = 0; what < 6; what++) {
                AheadStore x = new AheadStore();
                made.accept(x);
                Due.is("page(" + p + ", " + what + ")", x.page(p, what), -1);
            }
        }
        for (int what : new int[] {-1, 6, Integer.MIN_VALUE, Integer.MAX_VALUE}) {
            Whole.none("page(0, " + what + ")", made, x -> x.page(0, what));
            Whole.none("page(15, " + what + ")", made, x -> x.page(15, what));
        }
        for (int p : FAR) {
            Due.is("page(" + p + ", 2)", new AheadStore().page(p, 2), -1);
        }
    }

    /** "on DISK all is 0, it is LOST" */
    private static void lostPageTold() {
        AheadStore x = new AheadStore();
        x.frames(1);
        begun(x);
        x.write(1, 255, 9);
        x.write(1, 0, 1);
        x.keep(4, 15);
        x.act(1, 1);
        x.keep(5, 15);
        int[] want = {0, 0, -1, 0, 1, 14};
        for (int what = 0; what < 6; what++) {
            Due.is("page(15, " + what + ")", x.page(15, what), want[what]);
        }
        Due.is("at(255, 0)", x.at(255, 0), 0);
        Due.is("at(255, 1)", x.at(255, 1), 0);
        Due.is("look(14)", x.look(14), 1 << 15);
    }

    /** "which transactions have written it (a set, bit t)": the least and the greatest bit */
    private static void setsOfAll() {
        AheadStore x = new AheadStore();
        for (int t = 1; t <= 9; t++) {
            x.act(t, 0);
            Due.yes("add by " + t, x.add(t, 77, 1));
        }
        Due.is("all nine have added", x.at(77, 3), 1022);
        Due.is("none has written", x.at(77, 2), 0);
        x.write(1, 0, 1);
        x.write(9, 1, 1);
        Due.is("1 has written", x.at(0, 2), 2);
        Due.is("9 has written", x.at(1, 2), 512);
        x.add(9, 1, 1);
        Due.is("9 has added, too", x.at(1, 3), 512);
    }
}
