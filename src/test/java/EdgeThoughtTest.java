import java.util.function.Consumer;

/** The edges of IN THOUGHT (term 5), WAITS (term 7) and of promises 22 and 23; NEEDED (promise 29). */
public final class EdgeThoughtTest {
    public static void main(String[] args) {
        wouldOutside();
        wouldOutsideWhenDown();
        nothingStays();
        wouldOfNothing();
        wouldAtEachByte();
        wouldWithEachE();
        wouldAsItComes();
        wouldWhenDown();
        wouldOfALostPage();
        losersAtTheEdge();
        losersOfTheFirstAnalysis();
        neededOfEach();
        waitsForAll();
        waitsOnlyForOthersAlone();
        waitsGoneWhenDone();
        waitsGoneWhenGoingBack();
        waitsGoneAtItsEnd();
        waitsLeftByElse();
        waitsOfThoseThatEnd();
        nobodyWaitsBehindACrash();
        deadlockOfTwo();
        deadlockOfNine();
        noDeadlockFromOutside();
        rollingBackEndsADeadlock();
        costOfEach();
        victimOfLeastCost();
        victimAlike();
        Due.end("EdgeThoughtTest");
    }

    /**
     * 1 committed (its 7 not flushed), 2 and 9 running: 1 at 8, 3 at 14, 2 at 22, 5 at 31, FLUSHED 37; 7 at 37,
     * 1 at 43 and 49, 3 at 55, 2 at 63; END 72.
     */
    private static void some(AheadStore x) {
        x.act(1, 0);
        x.add(1, 0, 1);
        x.write(1, 255, 7);
        x.act(1, 1);
        x.act(2, 0);
        x.act(9, 0);
        x.add(2, 0, 2);
        x.write(9, 16, 3);
    }

    /** "NONE if one can't be (m 0 .. 999 .. e 0 .. 9), or another what" */
    private static void wouldOutside() {
        for (int m : new int[] {-1, 1000, Integer.MIN_VALUE, Integer.MAX_VALUE}) {
            Whole.none("would(" + m + ", 0, 260)", EdgeThoughtTest::some, x -> x.would(m, 0, 260));
        }
        for (int e : new int[] {-1, 10, Integer.MIN_VALUE, Integer.MAX_VALUE}) {
            Whole.none("would(0, " + e + ", 260)", EdgeThoughtTest::some, x -> x.would(0, e, 260));
        }
        for (int what : new int[] {-1, 262, Integer.MIN_VALUE, Integer.MAX_VALUE}) {
            Whole.none("would(0, 0, " + what + ")", EdgeThoughtTest::some, x -> x.would(0, 0, what));
        }
    }

    /** "(m 0 .. 999, DOWN, too ..)" */
    private static void wouldOutsideWhenDown() {
        Consumer<AheadStore> down = x -> {
            some(x);
            x.crash(20);
        };
        for (int m : new int[] {-1, 1000, Integer.MIN_VALUE, Integer.MAX_VALUE}) {
            Whole.none("would(" + m + ", 0, 260), DOWN", down, x -> x.would(m, 0, 260));
        }
        Whole.none("would(0, 10, 260), DOWN", down, x -> x.would(0, 10, 260));
        Whole.none("would(0, -1, 260), DOWN", down, x -> x.would(0, -1, 260));
        Whole.none("would(0, 0, 262), DOWN", down, x -> x.would(0, 0, 262));
    }

    /** "(nothing of it stays)" */
    private static void nothingStays() {
        Consumer<AheadStore> made = x -> {
            some(x);
            x.keep(5, 9);
            x.keep(2, 0);
            x.ship(30);
            x.image(true);
            x.write(9, 17, 3);
        };
        for (int e = 0; e <= 9; e++) {
            int each = e;
            Whole.unchanged("would(999, " + e + ", 255)", made, x -> x.would(999, each, 255), 7);
            Whole.unchanged("would(0, " + e + ", 0)", made, x -> x.would(0, each, 0), 1);
        }
        Consumer<AheadStore> down = made.andThen(x -> x.crash(13));
        for (int e = 0; e <= 9; e++) {
            int each = e;
            Whole.unchanged("would(999, " + e + ", 255), DOWN", down, x -> x.would(999, each, 255), 7);
        }
    }

    /** A new object: nothing would be lost. */
    private static void wouldOfNothing() {
        int[] want = {0, 0, 0, 0, 8, 0};
        for (int e = 0; e <= 9; e++) {
            AheadStore x = new AheadStore();
            for (int k = 0; k < 6; k++) {
                Due.is("would(0, " + e + ", " + (256 + k) + ")", x.would(0, e, 256 + k), want[k]);
                Due.is("would(999, " + e + ", " + (256 + k) + ")", x.would(999, e, 256 + k), want[k]);
            }
            Due.is("byte 0", x.would(0, e, 0), 0);
            Due.is("byte 255", x.would(999, e, 255), 0);
        }
    }

    /** What each CRASH would leave, from one in which 7 is torn to one in which all is there. */
    private static void wouldAtEachByte() {
        AheadStore x = new AheadStore();
        some(x);
        Due.is("FLUSHED", x.look(2), 37);
        Due.is("END", x.look(1), 72);
        for (int m = 0; m <= 40; m++) {
            int ends = m < 6 ? 1 : m < 12 ? 0 : m < 18 ? 1 : 2;
            int four = m < 26 ? 0 : m < 35 ? 1 : 2;
            int whole = m < 6 ? 37 : m < 12 ? 43 : m < 18 ? 49 : m < 26 ? 55 : m < 35 ? 63 : 72;
            int losers = m < 12 ? 0 : m < 18 ? 4 : 4 + 512;
            Due.is("records 4 with " + m, x.would(m, 0, 256), four);
            Due.is("records 7 with " + m, x.would(m, 0, 257), ends);
            Due.is("REDONE with " + m, x.would(m, 0, 258), 2 + four);
            Due.is("END with " + m, x.would(m, 0, 260), whole + 11 * four + 6 * ends);
            Due.is("LOSERS with " + m, x.would(m, 0, 261), losers);
            Due.is("byte 0 with " + m, x.would(m, 0, 0), 1);
        }
    }

    /** "or with e (1 .. 9), again and again till it is through": four records in all */
    private static void wouldWithEachE() {
        AheadStore x = new AheadStore();
        some(x);
        int[] crashes = {0, 3, 1, 1, 0, 0, 0, 0, 0, 0};
        // REDONE: 4 at first; 5 behind one compensation, 6 behind two
        int[] redone = {4, 4 + 5 + 6 + 6, 4 + 6, 4 + 6, 4, 4, 4, 4, 4, 4};
        for (int e = 0; e <= 9; e++) {
            Due.is("records 4 with e " + e, x.would(35, e, 256), 2);
            Due.is("records 7 with e " + e, x.would(35, e, 257), 2);
            Due.is("REDONE with e " + e, x.would(35, e, 258), redone[e]);
            Due.is("crashes with e " + e, x.would(35, e, 259), crashes[e]);
            Due.is("END with e " + e, x.would(35, e, 260), 72 + 22 + 12);
            Due.is("LOSERS with e " + e, x.would(35, e, 261), 4 + 512);
        }
    }

    /** What was thought is what comes. */
    private static void wouldAsItComes() {
        for (int m : new int[] {0, 5, 6, 13, 27, 34, 35, 999}) {
            AheadStore x = new AheadStore();
            some(x);
            int four = x.would(m, 2, 256);
            int ends = x.would(m, 2, 257);
            int redone = x.would(m, 2, 258);
            int crashes = x.would(m, 2, 259);
            int end = x.would(m, 2, 260);
            int written = 0;
            int redoneInAll = 0;
            x.crash(m);
            for (int i = 0; i < 9 && x.look(0) == 0; i++) {
                written += x.recover(2);
                redoneInAll += x.look(12);
            }
            Due.is("records with " + m, written, four + ends);
            Due.is("REDONE with " + m, redoneInAll, redone);
            Due.is("crashes with " + m, x.look(13) - 1, crashes);
            Due.is("END with " + m, x.look(1), end);
        }
    }

    /** "(DOWN: without one)" */
    private static void wouldWhenDown() {
        for (int m : new int[] {0, 1, 999}) {
            AheadStore x = new AheadStore();
            some(x);
            x.crash(20);
            // behind the cut END is 55: 2 and 9 have begun
            Due.is("END with " + m, x.would(m, 0, 260), 55 + 12);
            Due.is("crashes with " + m, x.would(m, 1, 259), 1);
            Due.is("LOSERS with " + m, x.would(m, 0, 261), 4 + 512);
            x.recover(1);
            Due.is("END with " + m, x.would(m, 0, 260), 55 + 12);
            Due.is("LOSERS with " + m + ": 2 is gone", x.would(m, 0, 261), 512);
            Due.is("records 7 with " + m, x.would(m, 0, 257), 1);
            Due.is("crashes with " + m, x.would(m, 1, 259), 0);
        }
    }

    private static void wouldOfALostPage() {
        AheadStore x = new AheadStore();
        x.frames(1);
        x.act(1, 0);
        x.write(1, 255, 9);
        x.write(1, 0, 1);
        x.act(1, 1);
        x.keep(5, 15);
        Due.is("byte 255 now", x.at(255, 0), 0);
        Due.is("byte 255 then", x.would(0, 0, 255), 9);
        Due.is("LOST", x.look(14), 32768);
        Due.is("REDONE: DISK has it already", x.would(0, 0, 258), 1);
    }

    /** "the set (bit t) of transactions that are there and not committed": 1 and 9, rolling back, too */
    private static void losersAtTheEdge() {
        AheadStore x = new AheadStore();
        for (int t = 1; t <= 9; t++) {
            x.act(t, 0);
        }
        x.act(9, 2);
        Due.is("none is flushed", x.would(0, 0, 261), 0);
        Due.is("all", x.would(999, 0, 261), 1022);
        x.act(1, 1);
        Due.is("1 is committed", x.would(0, 0, 261), 1020);
        x.roll(9, 1);
        Due.is("9 is gone, not by what is flushed", x.would(0, 0, 261), 1020);
        Due.is("9 is gone", x.would(999, 0, 261), 508);
    }

    /** "at the end of the first ANALYSIS": not of the later ones */
    private static void losersOfTheFirstAnalysis() {
        AheadStore x = new AheadStore();
        x.act(1, 0);
        x.act(2, 0);
        x.act(3, 0);
        for (int e = 0; e <= 9; e++) {
            Due.is("LOSERS with e " + e, x.would(999, e, 261), 14);
        }
    }

    /** "the least of MASTER (8, if 0), of REC of FRAMES that are not clean, of the record 1 of each" */
    private static void neededOfEach() {
        AheadStore x = new AheadStore();
        Due.is("nothing", x.look(9), 8);
        x.act(1, 0);
        x.act(1, 1);
        Due.is("MASTER is 0", x.look(9), 8);
        x.act(2, 0);
        x.write(2, 0, 1);
        x.keep(2, 0);
        x.keep(3, 0);
        // 1 of 2 at 26, 2 at 32, 8 at 41
        Due.is("MASTER", x.look(3), 41);
        Due.is("record 1 of 2", x.look(9), 26);
        x.save(2);
        x.write(2, 1, 1);
        x.back(2, 0);
        x.act(2, 3);
        x.act(2, 4);
        Due.is("by PREV, not by NEXT", x.look(9), 26);
        x.act(2, 2);
        Due.is("rolling back", x.look(9), 26);
        x.roll(2, 9);
        Due.is("REC of PAGE 0", x.look(9), 32);
        x.keep(1, 0);
        Due.is("MASTER", x.look(9), 41);
        x.act(3, 0);
        Due.is("a younger one", x.look(9), 41);
        x.crash(0);
        Due.is("DOWN", x.look(9), 8);
        Due.is("recover(0): the record 7 of 2 was not flushed", x.recover(0), 0);
        Due.is("DOWN anew", x.look(9), 8);
        x.recover(-1);
        Due.is("UP, and DISK has all", x.look(9), 41);
        for (int t : new int[] {1, 9}) {
            AheadStore y = new AheadStore();
            y.act(5, 0);
            y.act(5, 1);
            y.act(t, 0);
            y.keep(2, 0);
            y.keep(3, 0);
            Due.is("MASTER", y.look(3), 32);
            Due.is("record 1 of " + t, y.look(9), 26);
        }
    }

    private static AheadStore three() {
        AheadStore x = new AheadStore();
        for (int t = 1; t <= 4; t++) {
            x.act(t, 0);
        }
        x.add(1, 0, 1);
        x.add(2, 0, 1);
        x.write(3, 16, 1);
        return x;
    }

    /** "makes t WAIT for all these others (a set, bit t; what it was is gone ..)" */
    private static void waitsForAll() {
        AheadStore x = three();
        Due.no("write", x.write(4, 0, 1));
        Due.is("for 1 and 2", x.tx(4, 5), 6);
        Due.no("add", x.add(4, 16, 1));
        Due.is("for 3 alone", x.tx(4, 5), 8);
        Due.no("write", x.write(1, 0, 1));
        Due.is("not for itself", x.tx(1, 5), 4);
        AheadStore y = new AheadStore();
        for (int t = 1; t <= 9; t++) {
            y.act(t, 0);
            y.add(t, 0, 1);
        }
        y.write(1, 0, 1);
        Due.is("for eight others", y.tx(1, 5), 1020);
    }

    /** "(.. refused for anything else it stays)" */
    private static void waitsOnlyForOthersAlone() {
        Consumer<AheadStore> made = x -> {
            x.act(1, 0);
            x.act(2, 0);
            x.write(1, 0, 1);
            x.write(1, 32, 1);
            x.write(2, 0, 1);
            x.keep(5, 9);
        };
        Whole.refused("write of 256 where 1 is", made, x -> x.write(2, 32, 256));
        Whole.refused("write of -1 where 1 is", made, x -> x.write(2, 32, -1));
        Whole.refused("add of 0 where 1 is", made, x -> x.add(2, 32, 0));
        Whole.refused("write at 256", made, x -> x.write(2, 256, 1));
        Whole.refused("write, LOST", made, x -> x.write(2, 150, 1));
        Whole.refused("add, LOST", made, x -> x.add(2, 150, 1));
        Whole.unchanged("write where 1 is, again", made, x -> Whole.flag(x.write(2, 0, 1)), 0);
        AheadStore x = new AheadStore();
        made.accept(x);
        Due.is("2 WAITS", x.tx(2, 5), 2);
    }

    /** "It WAITS for none as soon as one of it is done" */
    private static void waitsGoneWhenDone() {
        AheadStore x = three();
        x.write(4, 0, 1);
        Due.yes("write elsewhere", x.write(4, 99, 1));
        Due.is("none", x.tx(4, 5), 0);
        x.write(4, 0, 1);
        Due.yes("add", x.add(4, 0, 1));
        Due.is("none", x.tx(4, 5), 0);
    }

    /** "or it goes back (undoing none, too)" */
    private static void waitsGoneWhenGoingBack() {
        AheadStore x = three();
        x.save(4);
        x.write(4, 0, 1);
        Due.is("back to no savepoint", x.back(4, 1), -1);
        Due.is("it WAITS yet", x.tx(4, 5), 6);
        Due.is("back", x.back(4, 0), 0);
        Due.is("none", x.tx(4, 5), 0);
    }

    /** "aborts, commits" */
    private static void waitsGoneAtItsEnd() {
        AheadStore x = three();
        x.write(4, 0, 1);
        x.act(4, 2);
        Due.is("none", x.tx(4, 5), 0);
        x.roll(4, 1);
        x.act(4, 0);
        Due.is("nor the next one of that number", x.tx(4, 5), 0);
        x.write(4, 0, 1);
        x.act(4, 3);
        x.act(4, 1);
        Due.is("a commit that is refused", x.tx(4, 5), 6);
        x.act(4, 4);
        x.act(4, 1);
        Due.is("none", x.tx(4, 5), 0);
    }

    /** "(what else it does leaves it)" */
    private static void waitsLeftByElse() {
        AheadStore x = three();
        x.write(4, 0, 1);
        x.save(4);
        x.act(4, 3);
        x.act(4, 4);
        x.act(4, 0);
        x.keep(0, 0);
        x.keep(2, 0);
        x.keep(3, 0);
        x.ship(9);
        x.would(0, 0, 0);
        x.write(1, 99, 1);
        Due.is("for 1 and 2 yet", x.tx(4, 5), 6);
    }

    /** "who ends is waited for no more" */
    private static void waitsOfThoseThatEnd() {
        AheadStore x = three();
        x.write(4, 0, 1);
        x.act(1, 1);
        Due.is("1 has committed", x.tx(4, 5), 4);
        x.act(1, 0);
        Due.is("1 is another one now", x.tx(4, 5), 4);
        x.act(2, 2);
        Due.is("2 rolls back", x.tx(4, 5), 4);
        x.roll(2, 1);
        Due.is("yet", x.tx(4, 5), 4);
        x.roll(2, 1);
        Due.is("2 is gone", x.tx(4, 5), 0);
        AheadStore y = new AheadStore();
        y.act(1, 0);
        y.act(5, 0);
        y.act(9, 0);
        y.write(5, 0, 1);
        y.write(1, 0, 1);
        y.add(9, 0, 1);
        Due.is("1 WAITS for 5", y.tx(1, 5), 32);
        Due.is("9 WAITS for 5", y.tx(9, 5), 32);
        y.act(5, 1);
        Due.is("1 no more", y.tx(1, 5), 0);
        Due.is("9 no more", y.tx(9, 5), 0);
        y.write(9, 0, 1);
        y.write(1, 0, 1);
        Due.is("1 WAITS for 9", y.tx(1, 5), 512);
        y.act(9, 1);
        Due.is("1 no more", y.tx(1, 5), 0);
    }

    /** "a CRASH: nobody waits" */
    private static void nobodyWaitsBehindACrash() {
        AheadStore x = three();
        x.write(4, 0, 1);
        x.write(3, 0, 1);
        x.keep(0, 0);
        x.crash(0);
        for (int t = 1; t <= 9; t++) {
            Due.is("tx(" + t + ", 5)", x.tx(t, 5), 0);
        }
        Due.is("DEADLOCK", x.look(17), 0);
    }

    /** "t is in a DEADLOCK, if by WAITS, one at least, one comes from t to t" */
    private static void deadlockOfTwo() {
        AheadStore x = new AheadStore();
        x.act(1, 0);
        x.act(2, 0);
        x.write(1, 0, 1);
        x.write(2, 1, 1);
        x.write(1, 1, 1);
        Due.is("one alone", x.look(17), 0);
        Due.is("victim", x.victim(), -1);
        x.write(2, 0, 1);
        Due.is("both", x.look(17), 6);
        Due.is("tx(1, 7)", x.tx(1, 7), 1);
        Due.is("tx(2, 7)", x.tx(2, 7), 1);
        Due.is("tx(3, 7)", x.tx(3, 7), 0);
    }

    private static void deadlockOfNine() {
        for (boolean up : new boolean[] {true, false}) {
            AheadStore x = new AheadStore();
            for (int t = 1; t <= 9; t++) {
                x.act(t, 0);
                x.write(t, t, t);
            }
            for (int t = 1; t < 9; t++) {
                x.write(up ? t : t + 1, up ? t + 1 : t, 1);
                Due.is("not yet", x.look(17), 0);
            }
            x.write(up ? 9 : 1, up ? 1 : 9, 1);
            Due.is("all nine", x.look(17), 1022);
            Due.is("victim", x.victim(), 1);
        }
    }

    private static void noDeadlockFromOutside() {
        AheadStore x = new AheadStore();
        for (int t = 1; t <= 4; t++) {
            x.act(t, 0);
            x.write(t, t, t);
        }
        x.write(2, 3, 1);
        x.write(3, 2, 1);
        x.write(1, 2, 1);
        x.write(3, 2, 1);
        Due.is("1 waits for those in it, 4 for none", x.look(17), 12);
        Due.is("tx(1, 7)", x.tx(1, 7), 0);
        Due.is("tx(4, 7)", x.tx(4, 7), 0);
    }

    private static void rollingBackEndsADeadlock() {
        AheadStore x = new AheadStore();
        x.act(1, 0);
        x.act(2, 0);
        x.write(1, 0, 1);
        x.write(2, 1, 1);
        x.write(1, 1, 1);
        x.write(2, 0, 1);
        Due.is("victim", x.victim(), 1);
        x.act(1, 2);
        Due.is("DEADLOCK", x.look(17), 0);
        Due.is("2 waits for 1 yet", x.tx(2, 5), 2);
        Due.is("victim", x.victim(), -1);
    }

    /** "COST of t (IS 1, 2; else 0)" */
    private static void costOfEach() {
        AheadStore x = new AheadStore();
        Due.is("IS 0", x.tx(1, 6), 0);
        x.act(1, 0);
        Due.is("nothing written", x.tx(1, 6), 0);
        x.write(1, 0, 1);
        x.add(1, 0, 1);
        Due.is("two", x.tx(1, 6), 2);
        x.save(1);
        x.add(1, 0, 1);
        x.back(1, 0);
        Due.is("one of three is undone", x.tx(1, 6), 2);
        x.act(1, 3);
        x.add(1, 0, 1);
        Due.is("a top action is open", x.tx(1, 6), 3);
        x.act(1, 4);
        Due.is("closed", x.tx(1, 6), 2);
        x.act(1, 2);
        Due.is("IS 2", x.tx(1, 6), 2);
        x.roll(1, 1);
        Due.is("from THE CURSOR on", x.tx(1, 6), 1);
        x.roll(1, 1);
        Due.is("from THE CURSOR on", x.tx(1, 6), 0);
        x.roll(1, 1);
        Due.is("gone", x.tx(1, 6), 0);
    }

    /** 2 and 3 in a DEADLOCK, 1 and 4 cheap but not in it. */
    private static AheadStore ring(int two, int three) {
        AheadStore x = new AheadStore();
        for (int t = 1; t <= 4; t++) {
            x.act(t, 0);
        }
        for (int i = 0; i < two; i++) {
            x.write(2, 20, i);
        }
        for (int i = 0; i < three; i++) {
            x.write(3, 30, i);
        }
        x.write(2, 30, 1);
        x.write(3, 20, 1);
        return x;
    }

    /** "of all in a DEADLOCK the one of the least COST" */
    private static void victimOfLeastCost() {
        Due.is("victim", ring(1, 2).victim(), 2);
        Due.is("victim", ring(2, 1).victim(), 3);
        Due.is("victim", ring(9, 8).victim(), 3);
        AheadStore x = new AheadStore();
        x.act(1, 0);
        x.act(9, 0);
        x.write(1, 0, 1);
        x.write(1, 0, 2);
        x.write(9, 1, 1);
        x.write(1, 1, 1);
        x.write(9, 0, 1);
        Due.is("the greatest number", x.victim(), 9);
        Due.is("both", x.look(17), 2 + 512);
    }

    /** "(alike: the least number; NONE)" */
    private static void victimAlike() {
        Due.is("victim", ring(1, 1).victim(), 2);
        Due.is("victim", ring(5, 5).victim(), 2);
        Due.is("victim", new AheadStore().victim(), -1);
        AheadStore x = ring(1, 1);
        x.crash(999);
        Due.is("victim, DOWN", x.victim(), -1);
        Whole.none("victim() without a DEADLOCK", y -> y.act(1, 0), AheadStore::victim);
        Whole.unchanged("victim()", y -> {
            y.act(1, 0);
            y.act(2, 0);
            y.write(1, 0, 1);
            y.write(2, 1, 1);
            y.write(1, 1, 1);
            y.write(2, 0, 1);
        }, AheadStore::victim, 1);
    }
}
