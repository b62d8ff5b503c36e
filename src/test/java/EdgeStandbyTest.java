import java.util.function.Consumer;

/** The edges of THE STANDBY, TO TAKE OVER and AS OF (term 8), and of promises 24 to 26. */
public final class EdgeStandbyTest {
    public static void main(String[] args) {
        emptyAtFirst();
        shipOutside();
        shipOfNothing();
        shipOneByOne();
        shipUpToFlushed();
        shipTheMost();
        shipWhenDown();
        cutOffReceived();
        receivedBelowTheCut();
        doneGoesOnBehindTheCut();
        standWrongInputs();
        standStamps();
        standWraps();
        takeOverOfNothing();
        takeOverOfTornTransactions();
        takeOverByWhatItHas();
        takeOverLeavesClosed();
        asOfWhereNoneBegins();
        asOfWrongAddresses();
        asOfFlushedOrNot();
        asOfEachRecord();
        asOfWhenDown();
        asOfWraps();
        nothingStays();
        becomesV();
        Due.end("EdgeStandbyTest");
    }

    /** 1 at 8, 2 at 14, 3 at 23, FLUSHED 31; 5 and 7 are not there yet. */
    private static void some(AheadStore x) {
        x.act(1, 0);
        x.write(1, 255, 200);
        x.add(1, 0, 100);
        x.keep(0, 0);
        x.add(1, 0, 100);
    }

    /** "(all 0 at first) .. (both 8 at first)" */
    private static void emptyAtFirst() {
        AheadStore x = new AheadStore();
        Due.is("RECEIVED", x.look(15), 8);
        Due.is("DONE", x.look(16), 8);
        for (int a = 0; a < 256; a += 15) {
            Due.is("stand(" + a + ", 0)", x.stand(a, 0), 0);
            Due.is("stand(" + a + ", 1)", x.stand(a, 1), 0);
            Due.is("stand(" + a + ", 2)", x.stand(a, 2), 0);
        }
    }

    /** "SHIP n (1 .. 999)": "NONE if n can't be" */
    private static void shipOutside() {
        for (int n : new int[] {0, 1000, -1, Integer.MIN_VALUE, Integer.MAX_VALUE}) {
            Whole.none("ship(" + n + ")", EdgeStandbyTest::some, x -> x.ship(n));
            Whole.none("ship(" + n + ") again", y -> {
                some(y);
                y.ship(12);
            }, x -> x.ship(n));
        }
    }

    private static void shipOfNothing() {
        Whole.unchanged("ship(999) of an empty log", x -> { }, x -> x.ship(999), 8);
        Whole.unchanged("ship(1), nothing flushed", x -> {
            x.act(1, 0);
            x.write(1, 0, 1);
        }, x -> x.ship(1), 8);
    }

    /** "that is whole and ends at RECEIVED at most" */
    private static void shipOneByOne() {
        AheadStore x = new AheadStore();
        some(x);
        for (int i = 9; i <= 31; i++) {
            Due.is("ship(1)", x.ship(1), i);
            Due.is("RECEIVED", x.look(15), i);
            Due.is("DONE with " + i, x.look(16), i < 14 ? 8 : i < 23 ? 14 : i < 31 ? 23 : 31);
            Due.is("byte 255 with " + i, x.stand(255, 0), i < 23 ? 0 : 200);
            Due.is("byte 0 with " + i, x.stand(0, 0), i < 31 ? 0 : 100);
        }
    }

    /** "RECEIVED is n more, FLUSHED at most" */
    private static void shipUpToFlushed() {
        AheadStore x = new AheadStore();
        some(x);
        Due.is("ship(22)", x.ship(22), 30);
        Due.is("ship(2)", x.ship(2), 31);
        Due.is("ship(999)", x.ship(999), 31);
        Due.is("DONE", x.look(16), 31);
        Due.is("not what is not flushed", x.stand(0, 0), 100);
        x.keep(0, 0);
        Due.is("it does not come by itself", x.look(15), 31);
        Due.is("ship(999)", x.ship(999), 39);
        Due.is("byte 0", x.stand(0, 0), 200);
    }

    private static void shipTheMost() {
        AheadStore x = new AheadStore();
        x.act(1, 0);
        for (int i = 0; i < 130; i++) {
            x.add(1, 0, 1);
        }
        x.keep(0, 0);
        Due.is("ship(999)", x.ship(999), 1007);
        Due.is("DONE", x.look(16), 1006);
        Due.is("byte 0", x.stand(0, 0), 124);
        Due.is("ship(999)", x.ship(999), 1054);
        Due.is("byte 0", x.stand(0, 0), 130);
    }

    /** "UP or DOWN": DOWN what lies torn behind FLUSHED is shipped, but not done */
    private static void shipWhenDown() {
        AheadStore x = new AheadStore();
        some(x);
        x.crash(7);
        Due.is("ship(999)", x.ship(999), 38);
        Due.is("DONE", x.look(16), 31);
        Due.is("byte 0", x.stand(0, 0), 100);
        AheadStore y = new AheadStore();
        some(y);
        y.crash(8);
        Due.is("ship(999)", y.ship(999), 39);
        Due.is("DONE", y.look(16), 39);
        Due.is("byte 0", y.stand(0, 0), 200);
    }

    /** "When ANALYSIS cuts the torn end off, RECEIVED is END at most (DONE stays)" */
    private static void cutOffReceived() {
        AheadStore x = new AheadStore();
        some(x);
        x.crash(7);
        x.ship(999);
        x.recover(0);
        Due.is("RECEIVED", x.look(15), 31);
        Due.is("DONE", x.look(16), 31);
        Due.is("END", x.look(1), 31);
        AheadStore y = new AheadStore();
        y.act(1, 0);
        y.crash(3);
        Due.is("ship(2)", y.ship(2), 10);
        y.recover(-1);
        Due.is("RECEIVED", y.look(15), 8);
        Due.is("DONE", y.look(16), 8);
    }

    private static void receivedBelowTheCut() {
        AheadStore x = new AheadStore();
        some(x);
        x.ship(10);
        x.crash(7);
        x.recover(0);
        Due.is("RECEIVED", x.look(15), 18);
        Due.is("DONE", x.look(16), 14);
        AheadStore y = new AheadStore();
        some(y);
        y.crash(7);
        y.ship(999);
        y.would(0, 0, 0);
        Due.is("in thought nothing is cut", y.look(15), 38);
    }

    /** What is written where the torn end was is shipped in its place. */
    private static void doneGoesOnBehindTheCut() {
        AheadStore x = new AheadStore();
        some(x);
        x.crash(7);
        x.ship(999);
        x.recover(-1);
        // 4 at 31 and 42, 7 at 53
        Due.is("END", x.look(1), 59);
        Due.is("ship(999)", x.ship(999), 59);
        Due.is("DONE", x.look(16), 59);
        Due.is("byte 0", x.stand(0, 0), 0);
        Due.is("byte 255", x.stand(255, 0), 0);
        Due.is("its STAMP", x.stand(255, 2), 42);
    }

    /** "NONE if there is none such, or another what" */
    private static void standWrongInputs() {
        Consumer<AheadStore> made = x -> {
            some(x);
            x.ship(999);
        };
        for (int a : new int[] {-1, 256, Integer.MIN_VALUE, Integer.MAX_VALUE}) {
            for (int what = 0; what < 3; what++) {
                int which = what;
                Whole.none("stand(" + a + ", " + what + ")", made, x -> x.stand(a, which));
            }
        }
        for (int what : new int[] {-1, 3, Integer.MIN_VALUE, Integer.MAX_VALUE}) {
            Whole.none("stand(0, " + what + ")", made, x -> x.stand(0, what));
            Whole.none("stand(255, " + what + ")", made, x -> x.stand(255, what));
        }
    }

    /** "2 the STAMP of its PAGE": its own, not the store's */
    private static void standStamps() {
        AheadStore x = new AheadStore();
        some(x);
        x.ship(15);
        Due.is("stand(240, 2)", x.stand(240, 2), 14);
        Due.is("stand(255, 2)", x.stand(255, 2), 14);
        Due.is("stand(239, 2)", x.stand(239, 2), 0);
        Due.is("stand(0, 2)", x.stand(0, 2), 0);
        x.ship(8);
        Due.is("stand(15, 2)", x.stand(15, 2), 23);
        Due.is("stand(16, 2)", x.stand(16, 2), 0);
        Due.is("the store's", x.page(0, 0), 31);
    }

    /** Done on its row as everywhere: modulo 256 */
    private static void standWraps() {
        AheadStore x = new AheadStore();
        x.act(1, 0);
        x.write(1, 5, 255);
        x.save(1);
        x.add(1, 5, 1);
        x.keep(0, 0);
        x.ship(999);
        Due.is("255 and 1", x.stand(5, 0), 0);
        x.back(1, 0);
        x.keep(0, 0);
        x.ship(999);
        Due.is("and 255 more", x.stand(5, 0), 255);
        Due.is("taken over", x.stand(5, 1), 0);
    }

    private static void takeOverOfNothing() {
        AheadStore x = new AheadStore();
        Due.is("stand(0, 1)", x.stand(0, 1), 0);
        some(x);
        Due.is("nothing shipped", x.stand(255, 1), 0);
        Due.is("AS OF knows more", x.asOf(255, 14), 0);
    }

    /** A record that it has in part alone counts as not there. */
    private static void takeOverOfTornTransactions() {
        AheadStore x = new AheadStore();
        x.act(1, 0);
        x.write(1, 0, 9);
        x.act(1, 1);
        // 5 at 23
        Due.is("ship(20)", x.ship(20), 28);
        Due.is("DONE", x.look(16), 23);
        Due.is("byte 0", x.stand(0, 0), 9);
        Due.is("1 is not committed by what it has done", x.stand(0, 1), 0);
        Due.is("ship(1)", x.ship(1), 29);
        Due.is("1 is committed", x.stand(0, 1), 9);
    }

    /** "by what lies ahead of DONE": what came to pass since is not asked */
    private static void takeOverByWhatItHas() {
        AheadStore x = new AheadStore();
        x.act(1, 0);
        x.add(1, 0, 1);
        x.act(1, 2);
        x.keep(0, 0);
        x.ship(999);
        x.roll(1, 9);
        x.keep(0, 0);
        Due.is("byte 0", x.stand(0, 0), 1);
        Due.is("taken over", x.stand(0, 1), 0);
        x.ship(11);
        Due.is("byte 0", x.stand(0, 0), 0);
        Due.is("taken over: not undone twice", x.stand(0, 1), 0);
        x.ship(999);
        Due.is("taken over", x.stand(0, 1), 0);
    }

    private static void takeOverLeavesClosed() {
        AheadStore x = new AheadStore();
        x.act(1, 0);
        x.act(1, 3);
        x.write(1, 0, 4);
        x.act(1, 4);
        x.write(1, 0, 5);
        x.keep(0, 0);
        x.ship(15);
        Due.is("not closed yet", x.stand(0, 1), 0);
        x.ship(8);
        Due.is("closed", x.stand(0, 1), 4);
        x.ship(999);
        Due.is("byte 0", x.stand(0, 0), 5);
        Due.is("what is behind it is undone", x.stand(0, 1), 4);
    }

    /** "NONE if no record in the row from 8 on begins at s" */
    private static void asOfWhereNoneBegins() {
        for (int s : new int[] {0, 7, 9, 13, 22, 24, 39, 40, -1, Integer.MIN_VALUE, Integer.MAX_VALUE}) {
            Whole.none("asOf(0, " + s + ")", EdgeStandbyTest::some, x -> x.asOf(0, s));
        }
        Whole.none("asOf(0, 8) of an empty log", x -> { }, x -> x.asOf(0, 8));
    }

    /** "or there is none such" */
    private static void asOfWrongAddresses() {
        for (int a : new int[] {-1, 256, Integer.MIN_VALUE, Integer.MAX_VALUE}) {
            Whole.none("asOf(" + a + ", 14)", EdgeStandbyTest::some, x -> x.asOf(a, 14));
        }
        Whole.unchanged("asOf(255, 14)", EdgeStandbyTest::some, x -> x.asOf(255, 14), 0);
    }

    /** "flushed or not" */
    private static void asOfFlushedOrNot() {
        AheadStore x = new AheadStore();
        x.act(1, 0);
        x.write(1, 0, 3);
        x.act(1, 1);
        x.act(2, 0);
        x.write(2, 0, 4);
        x.act(2, 3);
        x.act(2, 4);
        Due.is("FLUSHED", x.look(2), 29);
        // 7 at 29, 1 at 35, 2 at 41, 9 at 50
        Due.is("asOf(0, 29)", x.asOf(0, 29), 3);
        Due.is("asOf(0, 41): 2 loses", x.asOf(0, 41), 3);
        Due.is("asOf(0, 50): closed without it", x.asOf(0, 50), 3);
    }

    /** "with DONE behind the record at STAMP s" */
    private static void asOfEachRecord() {
        AheadStore x = new AheadStore();
        x.act(1, 0);
        x.act(1, 3);
        x.write(1, 0, 1);
        x.act(1, 4);
        x.add(1, 0, 2);
        x.act(2, 0);
        x.add(2, 1, 7);
        x.keep(2, 0);
        x.keep(3, 0);
        x.act(1, 1);
        x.act(2, 2);
        x.roll(2, 9);
        // 1 at 8, 2 at 14, 9 at 23, 3 at 31, 1 at 39, 3 at 45, 8 at 53, 10 at 59 (two transactions, one PAGE: 19),
        // 5 at 78, 7 at 84, 6 at 90, 4 at 96, 7 at 107
        int[][] want = {{8, 0}, {14, 0}, {23, 1}, {31, 1}, {39, 1}, {45, 1}, {53, 1}, {59, 1}, {78, 3}, {84, 3}, {90, 3},
            {96, 3}, {107, 3}};
        for (int[] w : want) {
            Due.is("asOf(0, " + w[0] + ")", x.asOf(0, w[0]), w[1]);
            Due.is("asOf(1, " + w[0] + ")", x.asOf(1, w[0]), 0);
        }
        Due.is("END", x.look(1), 113);
    }

    /** The row as it is, DOWN, too: a torn record is none. */
    private static void asOfWhenDown() {
        AheadStore x = new AheadStore();
        x.act(1, 0);
        x.write(1, 0, 1);
        x.act(1, 1);
        x.crash(5);
        Due.is("asOf(0, 23)", x.asOf(0, 23), 1);
        Due.is("asOf(0, 29), torn", x.asOf(0, 29), -1);
        x.recover(-1);
        Due.is("asOf(0, 29), written anew", x.asOf(0, 29), 1);
    }

    private static void asOfWraps() {
        AheadStore x = new AheadStore();
        x.act(1, 0);
        x.write(1, 0, 250);
        x.act(1, 1);
        x.act(1, 0);
        x.add(1, 0, 10);
        x.act(2, 0);
        x.add(2, 0, 20);
        x.act(2, 1);
        // 1 at 8, 2 at 14, 5 at 23, 7 at 29, 1 at 35, 3 at 41, 1 at 49, 3 at 55, 5 at 63
        Due.is("asOf(0, 41): 4, and 10 less", x.asOf(0, 41), 250);
        Due.is("asOf(0, 55): 24, and 30 less", x.asOf(0, 55), 250);
        Due.is("asOf(0, 63): 24, and 10 less", x.asOf(0, 63), 14);
    }

    /** In thought: one that was committed there without its record 7 is not so in the next thought. */
    private static void nothingStays() {
        AheadStore x = new AheadStore();
        x.act(1, 0);
        x.write(1, 0, 1);
        x.act(1, 1);
        x.act(1, 0);
        x.write(1, 0, 2);
        x.keep(0, 0);
        // 1 at 8, 2 at 14, 5 at 23, 7 at 29, 1 at 35, 2 at 41
        Due.is("asOf(0, 23)", x.asOf(0, 23), 1);
        Due.is("asOf(0, 14): not committed yet", x.asOf(0, 14), 0);
        Due.is("ship", x.ship(15), 23);
        Due.is("asOf(0, 23)", x.asOf(0, 23), 1);
        Due.is("taken over: not committed yet", x.stand(0, 1), 0);
        Due.is("ship", x.ship(6), 29);
        Due.is("taken over: committed", x.stand(0, 1), 1);
        Due.is("asOf(0, 14): not committed yet", x.asOf(0, 14), 0);
        Due.is("taken over: committed", x.stand(0, 1), 1);
    }

    /** "HOW (0: it becomes V; 1: V more, modulo 256)": by the standby, AS OF, RESTORE and REDO alike */
    private static void becomesV() {
        AheadStore x = new AheadStore();
        x.frames(1);
        x.act(1, 0);
        x.write(1, 0, 5);
        x.save(1);
        x.write(1, 0, 9);
        x.add(1, 1, 7);
        x.add(1, 1, 6);
        x.back(1, 0);
        x.act(1, 1);
        x.ship(999);
        Due.is("byte 0 of the standby", x.stand(0, 0), 5);
        Due.is("byte 1 of the standby", x.stand(1, 0), 0);
        Due.is("byte 0 AS OF its 5", x.asOf(0, 81), 5);
        Due.is("KIND", x.record(81, 0), 5);
        Due.is("byte 0 in thought", x.would(0, 0, 0), 5);
        x.act(2, 0);
        x.write(2, 16, 1);
        x.keep(5, 0);
        x.keep(6, 0);
        Due.is("byte 0 restored", x.at(0, 1), 5);
        Due.is("byte 1 restored", x.at(1, 1), 0);
    }
}
