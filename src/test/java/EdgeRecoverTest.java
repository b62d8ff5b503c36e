import java.util.function.Consumer;

/** The edges of CRASH and RECOVER (term 4, promises 10 and 11). */
public final class EdgeRecoverTest {
    public static void main(String[] args) {
        crashOutside();
        crashOfAnEmptyLog();
        crashWithNone();
        crashWithMoreThanThereIs();
        crashWithTheMost();
        crashForgets();
        tornFirstRecord();
        recoverOutside();
        nothingToWrite();
        justEnough();
        theMostRecords();
        noProgress();
        onlyRecordsCount();
        flushedAtOnce();
        crashAnewIsACrashWithNone();
        nothingFetchedForTheNext();
        fromMaster();
        fromEight();
        toldTransactions();
        endedBetween();
        lesserRec();
        lesserRecTold();
        recAtLeast();
        uncleanOfThisOneAlone();
        asManyTransactionsAsTold();
        asManyPagesAsTold();
        stampsGuard();
        greatestCursor();
        alikeLeastNumber();
        committedWithoutAnEnd();
        compensationsStay();
        closedTopsStay();
        redoneAnew();
        crashesCounted();
        masterStays();
        framesStay();
        Due.end("EdgeRecoverTest");
    }

    private static void two(AheadStore x) {
        x.act(1, 0);
        x.write(1, 0, 1);
        x.keep(0, 0);
        x.add(1, 16, 1);
    }

    /** "CRASH with m (0 .. 999)"; "false if m can't be, or DOWN" */
    private static void crashOutside() {
        for (int m : new int[] {-1, 1000, Integer.MIN_VALUE, Integer.MAX_VALUE}) {
            Whole.refused("crash(" + m + ")", EdgeRecoverTest::two, x -> x.crash(m));
        }
        for (int m : new int[] {0, 1, 999}) {
            Whole.refused("crash(" + m + "), DOWN", x -> {
                two(x);
                x.crash(3);
            }, x -> x.crash(m));
        }
    }

    private static void crashOfAnEmptyLog() {
        for (int m : new int[] {0, 999}) {
            AheadStore x = new AheadStore();
            Due.yes("crash(" + m + ")", x.crash(m));
            Due.is("END", x.look(1), 8);
            Due.is("recover(0)", x.recover(0), 0);
            Due.is("UP", x.look(0), 1);
            Due.is("END", x.look(1), 8);
            Due.is("REDONE", x.look(12), 0);
        }
    }

    /** m 0: "FLUSHED and m bytes more" */
    private static void crashWithNone() {
        AheadStore x = new AheadStore();
        two(x);
        x.crash(0);
        Due.is("END", x.look(1), 23);
        Due.is("FLUSHED", x.look(2), 23);
        Due.is("log(23)", x.log(23), -1);
    }

    /** "(all up to END, if there are fewer)" */
    private static void crashWithMoreThanThereIs() {
        for (int m : new int[] {7, 8, 9, 999}) {
            AheadStore x = new AheadStore();
            two(x);
            x.crash(m);
            Due.is("END with " + m, x.look(1), m == 7 ? 30 : 31);
        }
    }

    /** More than 999 bytes are not flushed: 999 of them are left. */
    private static void crashWithTheMost() {
        for (int m : new int[] {998, 999}) {
            AheadStore x = new AheadStore();
            x.act(1, 0);
            for (int i = 0; i < 130; i++) {
                x.add(1, 0, 1);
            }
            Due.is("END", x.look(1), 1054);
            x.crash(m);
            Due.is("END", x.look(1), 8 + m);
            Due.is("recover(0)", x.recover(0), 0);
            Due.is("END: a record ends at 1006", x.look(1), 1006);
            Due.is("REDONE", x.look(12), 124);
        }
    }

    /** "FRAMES hold none, all transactions are gone, DOWN" */
    private static void crashForgets() {
        AheadStore x = new AheadStore();
        x.act(1, 0);
        x.act(2, 0);
        x.act(3, 0);
        x.save(1);
        x.act(1, 3);
        x.write(1, 0, 1);
        x.add(2, 16, 1);
        x.write(2, 0, 1);
        x.write(1, 16, 1);
        x.act(3, 2);
        x.keep(0, 0);
        x.crash(0);
        for (int t = 1; t <= 9; t++) {
            for (int what = 0; what < 8; what++) {
                Due.is("tx(" + t + ", " + what + ")", x.tx(t, what), 0);
            }
        }
        Due.is("at(0, 2)", x.at(0, 2), 0);
        Due.is("at(16, 3)", x.at(16, 3), 0);
        Due.is("page(0, 2)", x.page(0, 2), -1);
        Due.is("page(1, 2)", x.page(1, 2), -1);
        Due.is("not clean", x.look(5), 0);
        Due.is("DEADLOCK", x.look(17), 0);
        Due.is("DOWN", x.look(0), 0);
    }

    /** The first record of all is torn: END is 8. */
    private static void tornFirstRecord() {
        for (int m = 1; m <= 6; m++) {
            AheadStore x = new AheadStore();
            x.act(1, 0);
            x.crash(m);
            Due.is("END", x.look(1), 8 + m);
            Due.is("recover of " + m, x.recover(-1), m == 6 ? 1 : 0);
            Due.is("END", x.look(1), m == 6 ? 20 : 8);
        }
    }

    /** "RECOVER with n (0 .. 99; NONE: without end ..)"; "NONE if n can't be" */
    private static void recoverOutside() {
        for (int n : new int[] {-2, 100, Integer.MIN_VALUE, Integer.MAX_VALUE}) {
            Whole.none("recover(" + n + ")", x -> {
                two(x);
                x.crash(3);
            }, x -> x.recover(n));
        }
    }

    /** n 0, and no record to write: it is through */
    private static void nothingToWrite() {
        AheadStore x = new AheadStore();
        x.act(1, 0);
        x.write(1, 0, 1);
        x.act(1, 1);
        x.keep(0, 0);
        x.crash(0);
        Due.is("recover(0)", x.recover(0), 0);
        Due.is("UP", x.look(0), 1);
        Due.is("REDONE", x.look(12), 1);
        Due.is("crashes", x.look(13), 1);
    }

    private static AheadStore loser(int adds) {
        AheadStore x = new AheadStore();
        x.act(1, 0);
        for (int i = 0; i < adds; i++) {
            x.add(1, 0, 1);
        }
        x.keep(0, 0);
        x.crash(0);
        return x;
    }

    /** "As soon as n records were written by it (0: ahead of the first one) and there is yet one to write" */
    private static void justEnough() {
        for (int n = 0; n <= 5; n++) {
            AheadStore x = loser(3);
            Due.is("recover(" + n + ")", x.recover(n), Math.min(n, 4));
            Due.is("UP behind recover(" + n + ")", x.look(0), n >= 4 ? 1 : 0);
            Due.is("crashes", x.look(13), n >= 4 ? 1 : 2);
            Due.is("records 4", x.count(4), Math.min(n, 3));
            Due.is("records 7", x.count(7), n >= 4 ? 1 : 0);
        }
        AheadStore x = loser(3);
        Due.is("recover(-1)", x.recover(-1), 4);
        Due.is("UP", x.look(0), 1);
    }

    private static void theMostRecords() {
        AheadStore x = loser(98);
        Due.is("recover(99) of 99", x.recover(99), 99);
        Due.is("UP", x.look(0), 1);
        AheadStore y = loser(99);
        Due.is("recover(99) of 100", y.recover(99), 99);
        Due.is("DOWN", y.look(0), 0);
        Due.is("recover(99) of the last one", y.recover(99), 1);
        Due.is("UP", y.look(0), 1);
        Due.is("at(0, 0)", y.at(0, 0), 0);
        AheadStore z = loser(120);
        Due.is("without end", z.recover(-1), 121);
        Due.is("UP", z.look(0), 1);
    }

    /** n 0 again and again: nothing is written, and it stays as it is. */
    private static void noProgress() {
        AheadStore x = loser(2);
        for (int i = 0; i < 5; i++) {
            Due.is("recover(0)", x.recover(0), 0);
            Due.is("END", x.look(1), 30);
            Due.is("REDONE", x.look(12), 2);
            Due.is("crashes", x.look(13), 2 + i);
        }
        Due.is("recover", x.recover(-1), 3);
    }

    /** At records 1, 6, 4, 9 THE CURSOR moves, and none is written. */
    private static void onlyRecordsCount() {
        AheadStore x = new AheadStore();
        x.act(1, 0);
        x.save(1);
        x.add(1, 0, 1);
        x.back(1, 0);
        x.act(1, 3);
        x.add(1, 0, 2);
        x.act(1, 4);
        x.act(1, 2);
        x.keep(0, 0);
        x.crash(0);
        Due.is("recover(0)", x.recover(0), 0);
        Due.is("DOWN: record 7 is to be written", x.look(0), 0);
        Due.is("recover(1)", x.recover(1), 1);
        Due.is("UP", x.look(0), 1);
        Due.is("at(0, 0)", x.at(0, 0), 2);
    }

    /** "Whatever record is written in it is flushed at once." */
    private static void flushedAtOnce() {
        AheadStore x = loser(2);
        x.recover(1);
        Due.is("END", x.look(1), 41);
        Due.is("FLUSHED", x.look(2), 41);
        x.recover(-1);
        Due.is("END", x.look(1), 58);
        Due.is("FLUSHED", x.look(2), 58);
        Due.is("not on DISK yet", x.page(0, 1), 0);
    }

    /** "it crashes anew (DOWN, as a CRASH with 0)" */
    private static void crashAnewIsACrashWithNone() {
        AheadStore x = loser(2);
        x.recover(1);
        Due.is("FRAMES hold none", x.page(0, 2), -1);
        Due.is("not clean", x.look(5), 0);
        Due.is("transactions", x.look(6) | x.look(7), 0);
        Due.is("tx(1, 1)", x.tx(1, 1), 0);
        Due.is("END", x.look(1), 41);
        Due.is("record 4 is there", x.record(30, 0), 4);
    }

    /** "ahead of all that belongs to that one (no PAGE is fetched for it)" */
    private static void nothingFetchedForTheNext() {
        for (int n = 0; n <= 2; n++) {
            AheadStore x = new AheadStore();
            x.frames(1);
            x.act(1, 0);
            x.add(1, 0, 1);
            x.add(1, 16, 1);
            x.keep(0, 0);
            x.crash(0);
            // 3 at 14 for PAGE 0, at 22 for PAGE 1; redo leaves PAGE 1 in the FRAME, and PAGE 0 on DISK
            x.recover(n);
            Due.is("PAGE 0 on DISK behind recover(" + n + ")", x.page(0, 1), 14);
            Due.is("PAGE 1 on DISK behind recover(" + n + ")", x.page(1, 1), n == 2 ? 30 : 0);
        }
    }

    private static AheadStore cleanOne(boolean check) {
        AheadStore x = new AheadStore();
        x.act(1, 0);
        x.write(1, 0, 1);
        x.act(1, 1);
        x.keep(1, 0);
        if (check) {
            x.keep(2, 0);
            x.keep(3, 0);
        }
        x.keep(0, 0);
        x.crash(0);
        x.recover(-1);
        return x;
    }

    /** "ANALYSIS: from MASTER": what was clean then is not fetched */
    private static void fromMaster() {
        AheadStore x = cleanOne(true);
        Due.is("MASTER", x.look(3), 35);
        Due.is("PAGE 0 is not fetched", x.page(0, 2), -1);
        Due.is("at(0, 0)", x.at(0, 0), 1);
    }

    /** "(8, if it is 0)" */
    private static void fromEight() {
        AheadStore x = cleanOne(false);
        Due.is("MASTER", x.look(3), 0);
        Due.is("PAGE 0 is fetched", x.page(0, 2), 0);
        Due.is("REDONE", x.look(12), 0);
        Due.is("clean", x.page(0, 3), 0);
    }

    /** "10: of its transactions those that are not there just then are, IS and LAST as told" */
    private static void toldTransactions() {
        AheadStore x = new AheadStore();
        x.act(1, 0);
        x.act(2, 0);
        x.act(9, 0);
        x.add(1, 0, 1);
        x.add(2, 0, 2);
        x.add(9, 0, 4);
        x.act(2, 2);
        x.keep(2, 0);
        x.add(9, 0, 8);
        x.keep(3, 0);
        x.add(9, 0, 16);
        x.keep(0, 0);
        x.crash(0);
        Due.is("LOSERS", x.would(0, 0, 261), 2 + 4 + 512);
        Due.is("recover: 5 and 3 records", x.recover(-1), 8);
        Due.is("at(0, 0)", x.at(0, 0), 0);
        Due.is("PREV of what 2 wrote: its record 6", x.record(x.look(1) - 18 - 22, 3), 50);
    }

    /** One that ended between a checkpoint's beginning and its end is not told, one that began anew is. */
    private static void endedBetween() {
        AheadStore x = new AheadStore();
        x.act(1, 0);
        x.act(2, 0);
        x.add(1, 0, 1);
        x.add(2, 0, 2);
        x.keep(2, 0);
        x.act(1, 1);
        x.act(2, 1);
        x.act(2, 0);
        x.add(2, 0, 4);
        x.keep(3, 0);
        Due.is("told", x.log(x.look(3) + 6 + 24 + 6 + 8 + 5), 1);
        x.crash(0);
        Due.is("LOSERS", x.would(0, 0, 261), 4);
        Due.is("recover", x.recover(-1), 2);
        Due.is("at(0, 0)", x.at(0, 0), 3);
    }

    /** "of its PAGES each has the lesser REC": that of a record behind 8 is less than what 10 tells */
    private static void lesserRec() {
        AheadStore x = new AheadStore();
        x.act(1, 0);
        x.keep(2, 0);
        x.write(1, 0, 1);
        x.keep(1, 0);
        x.write(1, 16, 1);
        x.write(1, 0, 2);
        Due.is("REC of PAGE 0", x.page(0, 3), 38);
        x.keep(3, 0);
        x.act(1, 1);
        x.keep(0, 0);
        x.crash(0);
        x.recover(-1);
        Due.is("PAGE 0 is fetched first, for the record at 20", x.page(0, 2), 0);
        Due.is("PAGE 1", x.page(1, 2), 1);
        Due.is("REDONE: not what DISK has", x.look(12), 2);
    }

    /** What 10 tells is less than that of a record behind 8. */
    private static void lesserRecTold() {
        AheadStore x = new AheadStore();
        x.act(1, 0);
        x.write(1, 0, 1);
        x.keep(2, 0);
        x.write(1, 1, 2);
        x.keep(3, 0);
        x.act(1, 1);
        x.keep(0, 0);
        x.crash(0);
        x.recover(-1);
        Due.is("REDONE: from 14 on", x.look(12), 2);
        Due.is("REC", x.page(0, 3), 14);
        Due.is("at(0, 0)", x.at(0, 0), 1);
        Due.is("at(1, 0)", x.at(1, 0), 2);
    }

    /** "whose PAGE is unclean and whose STAMP is REC at least" */
    private static void recAtLeast() {
        AheadStore x = new AheadStore();
        x.act(1, 0);
        x.write(1, 16, 1);
        x.write(1, 0, 1);
        x.keep(1, 0);
        x.write(1, 32, 1);
        x.write(1, 48, 1);
        x.keep(1, 3);
        x.write(1, 0, 2);
        x.keep(2, 0);
        x.keep(3, 0);
        x.act(1, 1);
        x.keep(0, 0);
        x.crash(0);
        x.recover(-1);
        // RECs: PAGE 1 14, PAGE 2 32, PAGE 0 50; the record at 23 for PAGE 0 lies below its REC, PAGE 3 is clean
        Due.is("PAGE 1", x.page(1, 2), 0);
        Due.is("PAGE 2", x.page(2, 2), 1);
        Due.is("PAGE 0 is fetched for the record at 50 alone", x.page(0, 2), 2);
        Due.is("PAGE 3 is not fetched", x.page(3, 2), -1);
        Due.is("REDONE", x.look(12), 3);
        Due.is("REC of PAGE 0", x.page(0, 3), 50);
    }

    /** What an earlier ANALYSIS, or one in thought, found unclean is not asked. */
    private static void uncleanOfThisOneAlone() {
        AheadStore x = new AheadStore();
        x.act(1, 0);
        x.write(1, 0, 1);
        x.act(1, 1);
        x.crash(99);
        x.recover(-1);
        Due.is("PAGE 0 was unclean", x.page(0, 3), 14);
        x.keep(1, 0);
        x.keep(2, 0);
        x.keep(3, 0);
        x.act(2, 0);
        x.write(2, 16, 1);
        x.keep(0, 0);
        x.crash(0);
        x.recover(-1);
        Due.is("PAGE 1", x.page(1, 2), 0);
        Due.is("PAGE 0 is not fetched", x.page(0, 2), -1);
    }

    /** "how many transactions (0 .. 9)": what lies behind them in a record 10 is none more */
    private static void asManyTransactionsAsTold() {
        for (int p = 1; p <= 2; p++) {
            AheadStore x = new AheadStore();
            x.act(5, 0);
            x.write(5, 16 * p, 1);
            x.keep(2, 0);
            x.keep(3, 0);
            x.crash(0);
            Due.is("one PAGE, number " + p, x.log(29 + 10), 1);
            Due.is("LOSERS", x.would(0, 0, 261), 32);
            Due.is("recover", x.recover(-1), 2);
        }
    }

    /** "how many PAGES are not clean (0 .. 8)": CHECK, which is behind them, is none more, though it is like one */
    private static void asManyPagesAsTold() {
        for (int p = 0; p < 16; p++) {
            AheadStore x = new AheadStore();
            x.act(5, 0);
            x.write(5, 16 * p, 1);
            for (int i = 0; i < 13; i++) {
                x.add(5, 16 * p, 1);
            }
            x.keep(2, 0);
            x.keep(3, 0);
            Due.is("CHECK is " + p, x.log(x.look(1) - 1), p);
            x.crash(0);
            Due.is("REDONE", x.would(0, 0, 258), 14);
            Due.is("recover", x.recover(-1), 15);
            Due.is("the byte", x.at(16 * p, 0), 0);
        }
    }

    /** "is its STAMP less than the record's, the record is done": alike it is not */
    private static void stampsGuard() {
        AheadStore x = new AheadStore();
        x.act(1, 0);
        x.add(1, 0, 1);
        x.add(1, 0, 2);
        x.keep(1, 0);
        x.add(1, 0, 4);
        x.act(1, 1);
        x.keep(0, 0);
        x.crash(0);
        x.recover(-1);
        Due.is("REDONE", x.look(12), 1);
        Due.is("at(0, 0)", x.at(0, 0), 7);
        Due.is("STAMP", x.page(0, 0), 30);
        Due.is("REC", x.page(0, 3), 30);
    }

    /** "the one whose CURSOR (LAST at first) is greatest" */
    private static void greatestCursor() {
        AheadStore x = new AheadStore();
        x.act(1, 0);
        x.act(2, 0);
        x.add(2, 0, 1);
        x.add(1, 1, 1);
        x.add(2, 2, 1);
        x.keep(0, 0);
        x.crash(0);
        x.recover(-1);
        // 3 at 20 (2), 28 (1), 36 (2): undone 36, 28, 20; then 1 has CURSOR 8, 2 has 14: 2 goes to 0, then 1, then ends
        int[][] want = {{44, 4, 2}, {55, 4, 1}, {66, 4, 2}, {77, 7, 1}, {83, 7, 2}};
        for (int[] w : want) {
            Due.is("KIND of " + w[0], x.record(w[0], 0), w[1]);
            Due.is("WHO of " + w[0], x.record(w[0], 2), w[2]);
        }
    }

    /** "(alike: the least number)": both at 0 */
    private static void alikeLeastNumber() {
        AheadStore x = new AheadStore();
        for (int t : new int[] {9, 1, 5}) {
            x.act(t, 0);
        }
        x.keep(0, 0);
        x.crash(0);
        Due.is("recover(2)", x.recover(2), 2);
        Due.is("first 1", x.record(26, 2), 1);
        Due.is("then 5", x.record(32, 2), 5);
        Due.is("recover", x.recover(-1), 1);
        Due.is("then 9", x.record(38, 2), 9);
    }

    /** "first, by number, a record 7 for each committed one": ahead of all that is undone */
    private static void committedWithoutAnEnd() {
        AheadStore x = new AheadStore();
        x.act(1, 0);
        x.act(9, 0);
        x.add(9, 0, 1);
        x.add(1, 0, 2);
        x.act(9, 1);
        x.crash(5);
        Due.is("LOSERS", x.would(0, 0, 261), 2);
        Due.is("recover(0)", x.recover(0), 0);
        Due.is("recover(1)", x.recover(1), 1);
        Due.is("7 of 9", x.record(42, 2), 9);
        Due.is("KIND", x.record(42, 0), 7);
        Due.is("PREV is its 5", x.record(42, 3), 36);
        Due.is("recover", x.recover(-1), 2);
        Due.is("at(0, 0)", x.at(0, 0), 1);
    }

    /** What rolling back had undone ahead of the CRASH is not undone again, nor are the compensations. */
    private static void compensationsStay() {
        AheadStore x = new AheadStore();
        x.act(1, 0);
        x.add(1, 0, 1);
        x.add(1, 0, 2);
        x.add(1, 0, 4);
        x.act(1, 2);
        x.roll(1, 2);
        x.keep(0, 0);
        x.crash(0);
        Due.is("recover: one 4, one 7", x.recover(-1), 2);
        Due.is("records 4", x.count(4), 3);
        Due.is("at(0, 0)", x.at(0, 0), 0);
        AheadStore y = new AheadStore();
        y.act(1, 0);
        y.add(1, 0, 1);
        y.act(1, 2);
        y.roll(1, 1);
        y.keep(0, 0);
        y.crash(0);
        Due.is("recover: the 7 alone", y.recover(-1), 1);
    }

    /** A closed top action of a loser stays, an open one is undone. */
    private static void closedTopsStay() {
        AheadStore x = new AheadStore();
        x.act(1, 0);
        x.act(1, 3);
        x.write(1, 0, 1);
        x.act(1, 4);
        x.act(1, 3);
        x.write(1, 1, 1);
        x.keep(0, 0);
        x.crash(0);
        Due.is("recover", x.recover(-1), 2);
        Due.is("at(0, 0)", x.at(0, 0), 1);
        Due.is("at(1, 0)", x.at(1, 0), 0);
    }

    /** "REDONE by the latest RECOVER (0 at first)" */
    private static void redoneAnew() {
        AheadStore x = loser(3);
        x.recover(0);
        Due.is("REDONE", x.look(12), 3);
        x.recover(2);
        Due.is("REDONE", x.look(12), 3);
        x.recover(-1);
        Due.is("REDONE: the two compensations, too", x.look(12), 5);
        x.keep(1, 0);
        Due.is("it stays", x.look(12), 5);
        x.crash(0);
        Due.is("it stays", x.look(12), 5);
        x.recover(-1);
        Due.is("REDONE: DISK has it all", x.look(12), 0);
    }

    /** "crashes of all kinds (0 at first)" */
    private static void crashesCounted() {
        AheadStore x = loser(1);
        Due.is("crash()", x.look(13), 1);
        x.recover(0);
        Due.is("in itself", x.look(13), 2);
        x.crash(0);
        Due.is("refused", x.look(13), 2);
        x.recover(100);
        Due.is("refused", x.look(13), 2);
        x.would(0, 1, 0);
        Due.is("in thought", x.look(13), 2);
        x.recover(-1);
        Due.is("through", x.look(13), 2);
        x.crash(0);
        Due.is("crash()", x.look(13), 3);
    }

    /** "UP, MASTER as it was" */
    private static void masterStays() {
        AheadStore x = new AheadStore();
        x.keep(2, 0);
        x.keep(3, 0);
        x.act(1, 0);
        x.keep(2, 0);
        x.keep(0, 0);
        x.crash(0);
        x.recover(0);
        Due.is("MASTER", x.look(3), 8);
        x.recover(-1);
        Due.is("MASTER", x.look(3), 8);
        Due.is("open", x.look(8), 0);
    }

    /** How many FRAMES were told outlives a CRASH. */
    private static void framesStay() {
        Consumer<AheadStore> made = x -> {
            x.frames(7);
            x.crash(0);
        };
        AheadStore x = new AheadStore();
        made.accept(x);
        Due.is("FRAMES, DOWN", x.look(4), 7);
        x.recover(-1);
        Due.is("FRAMES", x.look(4), 7);
    }
}
