import java.util.function.Consumer;

/** The edges of TRANSACTIONS (term 3) and of promises 3 to 8 and 19. */
public final class EdgeTransactionTest {
    private static final int[] NOBODY = {0, 10, -1, 32, 33, Integer.MIN_VALUE, Integer.MAX_VALUE};

    public static void main(String[] args) {
        numbersOutside();
        numbersAtTheEdge();
        otherWhats();
        beginTwice();
        noneThere();
        rollingBack();
        rollOfOneThatRuns();
        bytesOutside();
        addressesOutside();
        sameByteAgain();
        writeWhereOthersAre();
        addWhereOthersAre();
        ownOnesGo();
        lostOnes();
        addsWrap();
        compensationsAtTheEdge();
        eightSavepoints();
        noSuchSavepoint();
        backUndoingNone();
        backToItsStamp();
        backOverCompensations();
        backIntoAClosedTop();
        backAndTops();
        fourTops();
        closeAtOnce();
        nestedTops();
        commitWithTopsOpen();
        commitForgets();
        abortAtOnce();
        abortDropsMarks();
        rollTooFewOrTooMany();
        rollToItsEnd();
        cursorStays();
        txWrongInputs();
        prevIsLast();
        Due.end("EdgeTransactionTest");
    }

    /** 1 is running (a savepoint, a top action open, two bytes), 2 is rolling back. */
    private static void some(AheadStore x) {
        x.act(1, 0);
        x.act(2, 0);
        x.save(1);
        x.write(1, 0, 9);
        x.act(1, 3);
        x.add(1, 16, 9);
        x.write(2, 32, 9);
        x.act(2, 2);
    }

    /** "TRANSACTIONS 1 .. 9" */
    private static void numbersOutside() {
        for (int t : NOBODY) {
            for (int what = 0; what < 5; what++) {
                int which = what;
                Whole.refused("act(" + t + ", " + what + ")", EdgeTransactionTest::some, x -> x.act(t, which));
            }
            Whole.refused("write(" + t + ", 1, 1)", EdgeTransactionTest::some, x -> x.write(t, 1, 1));
            Whole.refused("add(" + t + ", 1, 1)", EdgeTransactionTest::some, x -> x.add(t, 1, 1));
            Whole.none("save(" + t + ")", EdgeTransactionTest::some, x -> x.save(t));
            Whole.none("back(" + t + ", 0)", EdgeTransactionTest::some, x -> x.back(t, 0));
            Whole.none("roll(" + t + ", 1)", EdgeTransactionTest::some, x -> x.roll(t, 1));
        }
    }

    private static void numbersAtTheEdge() {
        for (int t : new int[] {1, 9}) {
            AheadStore x = new AheadStore();
            Due.yes("begin " + t, x.act(t, 0));
            Due.is("running", x.look(6), 1 << t);
            Due.is("WHO", x.record(8, 2), t);
            Due.yes("write", x.write(t, 0, 1));
            Due.yes("add", x.add(t, 1, 1));
            Due.is("save", x.save(t), 0);
            Due.is("back", x.back(t, 0), 0);
            Due.yes("open", x.act(t, 3));
            Due.yes("close", x.act(t, 4));
            Due.yes("abort", x.act(t, 2));
            Due.is("rolling back", x.look(7), 1 << t);
            Due.is("roll", x.roll(t, 20), 3);
            Due.yes("begin anew", x.act(t, 0));
            Due.yes("commit", x.act(t, 1));
            Due.is("none", x.look(6) | x.look(7), 0);
        }
    }

    /** "or another what" */
    private static void otherWhats() {
        for (int what : new int[] {-1, 5, 6, Integer.MIN_VALUE, Integer.MAX_VALUE}) {
            for (int t = 1; t <= 3; t++) {
                int who = t;
                Whole.refused("act(" + t + ", " + what + ")", EdgeTransactionTest::some, x -> x.act(who, what));
            }
        }
    }

    /** "BEGIN (IS 0)" */
    private static void beginTwice() {
        Whole.refused("begin of one that is running", EdgeTransactionTest::some, x -> x.act(1, 0));
        Whole.refused("begin of one that is rolling back", EdgeTransactionTest::some, x -> x.act(2, 0));
    }

    /** "Only one that is running writes, adds, saves, goes back .., opens, closes, commits, aborts": IS 0 */
    private static void noneThere() {
        for (int what = 1; what < 5; what++) {
            int which = what;
            Whole.refused("act(3, " + what + ") of none", EdgeTransactionTest::some, x -> x.act(3, which));
        }
        Whole.refused("write of none", EdgeTransactionTest::some, x -> x.write(3, 1, 1));
        Whole.refused("add of none", EdgeTransactionTest::some, x -> x.add(3, 1, 1));
        Whole.refused("write of none where another is", EdgeTransactionTest::some, x -> x.write(3, 0, 1));
        Whole.none("save of none", EdgeTransactionTest::some, x -> x.save(3));
        Whole.none("back of none", EdgeTransactionTest::some, x -> x.back(3, 0));
        Whole.none("roll of none", EdgeTransactionTest::some, x -> x.roll(3, 1));
        Consumer<AheadStore> ended = x -> {
            some(x);
            x.act(1, 4);
            x.act(1, 1);
        };
        Whole.refused("commit twice", ended, x -> x.act(1, 1));
        Whole.none("back of one that has ended", ended, x -> x.back(1, 0));
        Whole.none("roll of one that has ended", ended, x -> x.roll(1, 1));
    }

    /** The same, IS 2 */
    private static void rollingBack() {
        for (int what = 0; what < 5; what++) {
            int which = what;
            Whole.refused("act(2, " + what + ") of one that is rolling back", EdgeTransactionTest::some, x -> x.act(2, which));
        }
        Whole.refused("write, rolling back", EdgeTransactionTest::some, x -> x.write(2, 33, 1));
        Whole.refused("add, rolling back", EdgeTransactionTest::some, x -> x.add(2, 33, 1));
        Whole.refused("write where another is, rolling back", EdgeTransactionTest::some, x -> x.write(2, 0, 1));
        Whole.none("save, rolling back", EdgeTransactionTest::some, x -> x.save(2));
        Whole.none("back, rolling back", x -> {
            x.act(2, 0);
            x.save(2);
            x.write(2, 0, 1);
            x.act(2, 2);
        }, x -> x.back(2, 0));
    }

    /** "NONE if one can't be (IS 2)" */
    private static void rollOfOneThatRuns() {
        Whole.none("roll of one that is running", EdgeTransactionTest::some, x -> x.roll(1, 1));
    }

    /** "WRITE v (0 .. 255)", "ADD v (1 .. 255)" */
    private static void bytesOutside() {
        for (int v : new int[] {-1, 256, 257, -256, Integer.MIN_VALUE, Integer.MAX_VALUE}) {
            Whole.refused("write(1, 1, " + v + ")", EdgeTransactionTest::some, x -> x.write(1, 1, v));
            Whole.refused("add(1, 1, " + v + ")", EdgeTransactionTest::some, x -> x.add(1, 1, v));
        }
        Whole.refused("add(1, 1, 0)", EdgeTransactionTest::some, x -> x.add(1, 1, 0));
        AheadStore x = new AheadStore();
        x.act(1, 0);
        Due.yes("write 0", x.write(1, 1, 0));
        Due.yes("write 255", x.write(1, 1, 255));
        Due.is("at(1, 0)", x.at(1, 0), 255);
        Due.yes("add 1", x.add(1, 2, 1));
        Due.yes("add 255", x.add(1, 3, 255));
        Due.is("at(2, 0)", x.at(2, 0), 1);
        Due.is("at(3, 0)", x.at(3, 0), 255);
    }

    /** "ADDRESSES 0 .. 255" */
    private static void addressesOutside() {
        for (int a : new int[] {-1, 256, -256, 65536, Integer.MIN_VALUE, Integer.MAX_VALUE}) {
            Whole.refused("write(1, " + a + ", 1)", EdgeTransactionTest::some, x -> x.write(1, a, 1));
            Whole.refused("add(1, " + a + ", 1)", EdgeTransactionTest::some, x -> x.add(1, a, 1));
        }
        AheadStore x = new AheadStore();
        x.act(1, 0);
        Due.yes("write at 0", x.write(1, 0, 1));
        Due.yes("write at 255", x.write(1, 255, 1));
        Due.yes("add at 0", x.add(1, 0, 1));
        Due.yes("add at 255", x.add(1, 255, 1));
    }

    /** A byte that is so already is written all the same: record 2 with WAS as IS. */
    private static void sameByteAgain() {
        AheadStore x = new AheadStore();
        x.act(1, 0);
        Due.yes("write 0 over 0", x.write(1, 9, 0));
        Due.is("END", x.look(1), 23);
        Due.is("WAS", x.log(20), 0);
        Due.is("IS", x.log(21), 0);
        Due.is("STAMP", x.page(0, 0), 14);
        Due.is("it has written", x.at(9, 2), 2);
    }

    /** "refused, if another one (IS 1, 2) has written or added to that ADDRESS" */
    private static void writeWhereOthersAre() {
        AheadStore x = new AheadStore();
        x.act(1, 0);
        x.act(2, 0);
        x.act(3, 0);
        x.save(1);
        x.write(1, 0, 1);
        x.add(2, 1, 1);
        Due.no("written, IS 1", x.write(3, 0, 1));
        Due.no("added to, IS 1", x.write(3, 1, 1));
        Due.yes("one beside it", x.write(3, 2, 1));
        Due.is("back", x.back(1, 0), 1);
        Due.no("undone or not", x.write(3, 0, 1));
        x.act(1, 2);
        x.act(2, 2);
        Due.no("written, IS 2", x.write(3, 0, 1));
        Due.no("added to, IS 2", x.write(3, 1, 1));
        x.roll(2, 1);
        Due.no("undone, but not gone", x.write(3, 1, 1));
        x.roll(2, 1);
        Due.yes("gone", x.write(3, 1, 1));
        x.roll(1, 1);
        Due.yes("gone", x.write(3, 0, 1));
    }

    /** "ADD 1 .. 255: refused, if another one has written it" */
    private static void addWhereOthersAre() {
        AheadStore x = new AheadStore();
        x.act(1, 0);
        x.act(2, 0);
        x.act(3, 0);
        x.write(1, 0, 1);
        x.add(2, 1, 1);
        Due.no("written", x.add(3, 0, 1));
        Due.yes("added to", x.add(3, 1, 1));
        Due.no("2 can't write it any more", x.write(2, 1, 5));
        Due.is("2 WAITS for 3", x.tx(2, 5), 8);
        x.act(3, 1);
        Due.yes("2 writes what it added to", x.write(2, 1, 5));
        x.act(3, 0);
        Due.no("3 can't add any more", x.add(3, 1, 1));
        x.act(1, 2);
        Due.no("written, IS 2", x.add(3, 0, 1));
        x.roll(1, 2);
        Due.yes("gone", x.add(3, 0, 1));
    }

    /** What one has written and added to itself is in nobody's way but others'. */
    private static void ownOnesGo() {
        AheadStore x = new AheadStore();
        x.act(1, 0);
        Due.yes("write", x.write(1, 0, 250));
        Due.yes("add", x.add(1, 0, 10));
        Due.yes("write", x.write(1, 0, 7));
        Due.yes("add", x.add(1, 0, 1));
        Due.is("at(0, 0)", x.at(0, 0), 8);
        x.act(1, 2);
        Due.is("roll", x.roll(1, 20), 5);
        Due.is("at(0, 0)", x.at(0, 0), 0);
    }

    /** "or its PAGE is LOST" */
    private static void lostOnes() {
        Consumer<AheadStore> made = x -> {
            some(x);
            x.keep(5, 15);
        };
        Whole.refused("write at 240, LOST", made, x -> x.write(1, 240, 1));
        Whole.refused("write at 255, LOST", made, x -> x.write(1, 255, 1));
        Whole.refused("add at 240, LOST", made, x -> x.add(1, 240, 1));
        AheadStore x = new AheadStore();
        made.accept(x);
        Due.yes("the PAGE beside it", x.write(1, 239, 1));
        x.keep(6, 15);
        Due.yes("restored", x.write(1, 240, 1));
    }

    /** "(modulo 256)" */
    private static void addsWrap() {
        int[][] sums = {{255, 1, 0}, {1, 255, 0}, {255, 255, 254}, {254, 1, 255}, {0, 255, 255}, {200, 100, 44}};
        for (int[] w : sums) {
            AheadStore x = new AheadStore();
            x.act(1, 0);
            x.write(1, 7, w[0]);
            x.save(1);
            x.add(1, 7, w[1]);
            Due.is(w[0] + " and " + w[1] + " more", x.at(7, 0), w[2]);
            x.back(1, 0);
            Due.is(w[0] + " and " + w[1] + " more, undone", x.at(7, 0), w[0]);
        }
    }

    /** "(2: HOW 0, V is WAS; 3: HOW 1, V is 256 less MUCH)" */
    private static void compensationsAtTheEdge() {
        int[][] adds = {{1, 255}, {128, 128}, {255, 1}};
        for (int[] w : adds) {
            AheadStore x = new AheadStore();
            x.act(1, 0);
            x.save(1);
            x.add(1, 7, w[0]);
            x.back(1, 0);
            Due.is("HOW", x.log(22 + 6), 1);
            Due.is("V for MUCH " + w[0], x.log(22 + 7), w[1]);
        }
        AheadStore x = new AheadStore();
        x.act(1, 0);
        x.write(1, 7, 255);
        x.save(1);
        x.write(1, 7, 0);
        x.back(1, 0);
        Due.is("HOW", x.log(32 + 6), 0);
        Due.is("V", x.log(32 + 7), 255);
        Due.is("at(7, 0)", x.at(7, 0), 255);
        x.write(1, 7, 5);
        x.save(1);
        x.write(1, 7, 9);
        x.back(1, 1);
        Due.is("it becomes V, not V more", x.at(7, 0), 5);
    }

    /** "SAVEPOINTS (up to 8 ..)"; "NONE if it can't be, or there are eight" */
    private static void eightSavepoints() {
        Consumer<AheadStore> eight = x -> {
            x.act(1, 0);
            for (int i = 0; i < 8; i++) {
                x.save(1);
                x.add(1, i, 1);
            }
        };
        Whole.none("the ninth savepoint", eight, x -> x.save(1));
        AheadStore x = new AheadStore();
        eight.accept(x);
        Due.is("SAVEPOINTS", x.tx(1, 3), 8);
        Due.is("back to the last", x.back(1, 7), 1);
        Due.is("it stays", x.tx(1, 3), 8);
        Due.is("the ninth", x.save(1), -1);
        Due.is("back to the sixth", x.back(1, 5), 2);
        Due.is("SAVEPOINTS", x.tx(1, 3), 6);
        Due.is("a new seventh", x.save(1), 6);
        Due.is("a new eighth", x.save(1), 7);
        Due.is("no ninth", x.save(1), -1);
        Due.is("back to the first", x.back(1, 0), 5);
        Due.is("SAVEPOINTS", x.tx(1, 3), 1);
        x.act(2, 0);
        Due.is("each has its own", x.save(2), 0);
    }

    /** "or there is no such savepoint" */
    private static void noSuchSavepoint() {
        Consumer<AheadStore> waiting = x -> {
            some(x);
            x.save(1);
            x.write(1, 32, 1);
        };
        for (int s : new int[] {-1, 2, 7, 8, Integer.MIN_VALUE, Integer.MAX_VALUE}) {
            Whole.none("back(1, " + s + ")", waiting, x -> x.back(1, s));
        }
        Whole.none("back without any", x -> x.act(1, 0), x -> x.back(1, 0));
    }

    /** Nothing lies behind the savepoint: 0, no record, savepoints above it are gone all the same. */
    private static void backUndoingNone() {
        AheadStore x = new AheadStore();
        x.act(1, 0);
        for (int i = 0; i < 3; i++) {
            x.save(1);
        }
        Due.is("back(1, 1)", x.back(1, 1), 0);
        Due.is("SAVEPOINTS", x.tx(1, 3), 2);
        Due.is("END", x.look(1), 14);
        Due.is("back(1, 2)", x.back(1, 2), -1);
        Due.is("back(1, 0)", x.back(1, 0), 0);
        Due.is("back(1, 0) again", x.back(1, 0), 0);
        Due.is("SAVEPOINTS", x.tx(1, 3), 1);
    }

    /** "as long as it is above the savepoint's STAMP": the record at that STAMP stays */
    private static void backToItsStamp() {
        AheadStore x = new AheadStore();
        x.act(1, 0);
        x.write(1, 0, 1);
        x.save(1);
        x.write(1, 1, 1);
        Due.is("back", x.back(1, 0), 1);
        Due.is("at(0, 0)", x.at(0, 0), 1);
        Due.is("at(1, 0)", x.at(1, 0), 0);
        Due.is("NEXT is the STAMP", x.record(32, 4), 14);
    }

    /** "at 4, 9 THE CURSOR is its NEXT": what was undone is not undone again */
    private static void backOverCompensations() {
        AheadStore x = new AheadStore();
        x.act(1, 0);
        x.save(1);
        x.add(1, 0, 1);
        x.save(1);
        x.add(1, 0, 2);
        x.add(1, 0, 4);
        Due.is("back(1, 1)", x.back(1, 1), 2);
        x.add(1, 0, 8);
        Due.is("back(1, 1)", x.back(1, 1), 1);
        Due.is("at(0, 0)", x.at(0, 0), 1);
        Due.is("back(1, 0): the first alone is left", x.back(1, 0), 1);
        Due.is("at(0, 0)", x.at(0, 0), 0);
        Due.is("records 4", x.count(4), 4);
        Due.is("back(1, 0): none", x.back(1, 0), 0);
    }

    /** A savepoint that lies in a top action that was closed since: THE CURSOR jumps below it. */
    private static void backIntoAClosedTop() {
        AheadStore x = new AheadStore();
        x.act(1, 0);
        x.act(1, 3);
        x.add(1, 0, 1);
        x.save(1);
        x.add(1, 0, 2);
        x.act(1, 4);
        Due.is("nothing is undone", x.back(1, 0), 0);
        Due.is("at(0, 0)", x.at(0, 0), 3);
        x.add(1, 0, 4);
        Due.is("what is behind the close is", x.back(1, 0), 1);
        Due.is("at(0, 0)", x.at(0, 0), 3);
        x.act(1, 2);
        Due.is("roll: record 7 alone", x.roll(1, 20), 1);
    }

    /** "TOPS whose STAMP is above that of s are gone" */
    private static void backAndTops() {
        AheadStore x = new AheadStore();
        x.act(1, 0);
        x.act(1, 3);
        x.write(1, 0, 1);
        x.act(1, 3);
        x.save(1);
        x.act(1, 3);
        x.write(1, 1, 1);
        x.act(1, 3);
        Due.is("TOPS", x.tx(1, 4), 4);
        Due.is("back", x.back(1, 0), 1);
        Due.is("below, alike and alike: they stay", x.tx(1, 4), 3);
        Due.yes("close", x.act(1, 4));
        Due.is("its NEXT", x.record(43, 4), 14);
        Due.yes("close", x.act(1, 4));
        Due.is("its NEXT", x.record(51, 4), 14);
        Due.yes("close", x.act(1, 4));
        Due.is("its NEXT", x.record(59, 4), 8);
        Due.no("close", x.act(1, 4));
        for (int many = 1; many <= 4; many++) {
            AheadStore y = new AheadStore();
            y.act(1, 0);
            y.save(1);
            y.write(1, 0, 1);
            for (int i = 0; i < many; i++) {
                y.act(1, 3);
            }
            Due.is("back over " + many, y.back(1, 0), 1);
            Due.is("TOPS of " + many, y.tx(1, 4), 0);
            Due.no("close, of " + many, y.act(1, 4));
            Due.yes("commit", y.act(1, 1));
        }
    }

    /** "TOPS open (up to 4 ..)" */
    private static void fourTops() {
        Consumer<AheadStore> four = x -> {
            x.act(1, 0);
            for (int i = 0; i < 4; i++) {
                x.act(1, 3);
                x.add(1, i, 1);
            }
        };
        Whole.refused("the fifth top action", four, x -> x.act(1, 3));
        Whole.refused("close, none is open", x -> x.act(1, 0), x -> x.act(1, 4));
        AheadStore x = new AheadStore();
        four.accept(x);
        for (int i = 3; i >= 0; i--) {
            Due.yes("close", x.act(1, 4));
            Due.is("TOPS", x.tx(1, 4), i);
            Due.is("NEXT", x.record(x.tx(1, 1), 4), i == 0 ? 8 : 6 + 8 * i);
        }
        Due.no("close", x.act(1, 4));
        Due.yes("open anew", x.act(1, 3));
    }

    /** Nothing lies between OPEN and CLOSE: a record 9 all the same, NEXT is PREV. */
    private static void closeAtOnce() {
        AheadStore x = new AheadStore();
        x.act(1, 0);
        x.write(1, 0, 1);
        x.act(1, 3);
        Due.is("OPEN writes no record", x.look(1), 23);
        x.act(1, 4);
        Due.is("NEXT", x.record(23, 4), 14);
        Due.is("PREV", x.record(23, 3), 14);
        Due.is("COST", x.tx(1, 6), 1);
    }

    /** "(what lies between is not undone any more)" */
    private static void nestedTops() {
        AheadStore x = new AheadStore();
        x.act(1, 0);
        x.add(1, 0, 1);
        x.act(1, 3);
        x.add(1, 0, 2);
        x.act(1, 3);
        x.add(1, 0, 4);
        x.act(1, 4);
        Due.is("COST", x.tx(1, 6), 2);
        x.add(1, 0, 8);
        Due.is("COST", x.tx(1, 6), 3);
        x.act(1, 4);
        Due.is("COST", x.tx(1, 6), 1);
        x.add(1, 0, 16);
        x.act(1, 2);
        Due.is("roll", x.roll(1, 20), 3);
        Due.is("at(0, 0)", x.at(0, 0), 14);
    }

    /** "COMMIT (no TOPS open)" */
    private static void commitWithTopsOpen() {
        Whole.refused("commit with a top action open", EdgeTransactionTest::some, x -> x.act(1, 1));
        AheadStore x = new AheadStore();
        some(x);
        x.act(1, 4);
        Due.yes("commit", x.act(1, 1));
    }

    /** "IS 0, LAST 0, all of it is forgotten" */
    private static void commitForgets() {
        AheadStore x = new AheadStore();
        x.act(1, 0);
        x.act(2, 0);
        x.write(1, 0, 1);
        x.add(1, 1, 1);
        x.save(1);
        x.write(2, 0, 1);
        x.write(2, 9, 1);
        x.write(1, 9, 1);
        x.act(2, 2);
        Due.is("1 WAITS", x.tx(1, 5), 4);
        Due.yes("commit", x.act(1, 1));
        for (int what = 0; what < 8; what++) {
            Due.is("tx(1, " + what + ")", x.tx(1, what), 0);
        }
        Due.is("at(0, 2)", x.at(0, 2), 0);
        Due.is("at(1, 3)", x.at(1, 3), 0);
        Due.is("through 5", x.record(x.look(1) - 12, 6), 1);
        Due.is("not 7", x.record(x.look(1) - 6, 6), 0);
        Due.is("the byte stays", x.at(0, 0), 1);
        x.act(1, 0);
        Due.is("no savepoint of the one ahead", x.back(1, 0), -1);
    }

    /** Nothing was written: record 6, then record 7. */
    private static void abortAtOnce() {
        AheadStore x = new AheadStore();
        x.act(1, 0);
        Due.yes("abort", x.act(1, 2));
        Due.is("CURSOR", x.tx(1, 2), 14);
        Due.is("COST", x.tx(1, 6), 0);
        Due.is("roll", x.roll(1, 1), 1);
        Due.is("KIND 7", x.record(20, 0), 7);
        Due.is("PREV", x.record(20, 3), 14);
        Due.is("gone", x.tx(1, 0), 0);
        Due.is("CURSOR", x.tx(1, 2), 0);
    }

    /** "(savepoints, TOPS gone)" */
    private static void abortDropsMarks() {
        for (int t : new int[] {1, 9}) {
            AheadStore x = new AheadStore();
            x.act(t, 0);
            x.save(t);
            x.save(t);
            x.act(t, 3);
            x.act(t, 3);
            Due.is("SAVEPOINTS", x.tx(t, 3), 2);
            Due.is("TOPS", x.tx(t, 4), 2);
            x.act(t, 2);
            Due.is("SAVEPOINTS", x.tx(t, 3), 0);
            Due.is("TOPS", x.tx(t, 4), 0);
            x.roll(t, 1);
            x.act(t, 0);
            Due.is("SAVEPOINTS of the next one", x.tx(t, 3), 0);
            Due.is("TOPS of the next one", x.tx(t, 4), 0);
            Due.yes("it commits", x.act(t, 1));
        }
    }

    /** "ROLL BACK n (1 .. 20) steps" */
    private static void rollTooFewOrTooMany() {
        for (int n : new int[] {0, 21, -1, Integer.MIN_VALUE, Integer.MAX_VALUE}) {
            Whole.none("roll(2, " + n + ")", EdgeTransactionTest::some, x -> x.roll(2, n));
        }
    }

    private static AheadStore rolling(int adds) {
        AheadStore x = new AheadStore();
        x.act(1, 0);
        for (int i = 0; i < adds; i++) {
            x.add(1, 0, 1);
        }
        x.act(1, 2);
        return x;
    }

    /** "fewer if it is gone": with 20 steps 19 records and record 7, or 20 records */
    private static void rollToItsEnd() {
        AheadStore x = rolling(19);
        Due.is("19 records 4, one 7", x.roll(1, 20), 20);
        Due.is("gone", x.tx(1, 0), 0);
        AheadStore y = rolling(20);
        Due.is("20 records 4", y.roll(1, 20), 20);
        Due.is("yet there", y.tx(1, 0), 2);
        Due.is("COST", y.tx(1, 6), 0);
        Due.is("record 7", y.roll(1, 20), 1);
        Due.is("gone", y.tx(1, 0), 0);
        AheadStore z = rolling(21);
        Due.is("20 records 4", z.roll(1, 20), 20);
        Due.is("COST", z.tx(1, 6), 1);
        Due.is("a 4 and a 7", z.roll(1, 20), 2);
        AheadStore w = rolling(2);
        Due.is("just as many as there are", w.roll(1, 2), 2);
        Due.is("yet there", w.tx(1, 0), 2);
        Due.is("at(0, 0)", w.at(0, 0), 0);
    }

    /** "(THE CURSOR is its PREV then, and moves on at the next step alone)" */
    private static void cursorStays() {
        AheadStore x = new AheadStore();
        x.act(1, 0);
        x.add(1, 0, 1);
        x.act(1, 3);
        x.add(1, 1, 1);
        x.act(1, 4);
        x.add(1, 2, 1);
        Due.is("CURSOR of one that is running", x.tx(1, 2), 0);
        x.act(1, 2);
        // 1 at 8, 3 at 14 and 22, 9 at 30, 3 at 38, 6 at 46
        Due.is("the record 6 at first", x.tx(1, 2), 46);
        x.roll(1, 1);
        Due.is("its PREV, the 9", x.tx(1, 2), 30);
        x.roll(1, 1);
        Due.is("its PREV, the 1", x.tx(1, 2), 8);
        Due.is("at(1, 0): closed", x.at(1, 0), 1);
        Due.is("roll", x.roll(1, 1), 1);
        Due.is("gone", x.tx(1, 2), 0);
    }

    /** "NONE if there is none such, or another what" */
    private static void txWrongInputs() {
        for (int t : NOBODY) {
            for (int what = 0; what < 8; what++) {
                AheadStore x = new AheadStore();
                some(x);
                Due.is("tx(" + t + ", " + what + ")", x.tx(t, what), -1);
            }
        }
        for (int what : new int[] {-1, 8, Integer.MIN_VALUE, Integer.MAX_VALUE}) {
            Whole.none("tx(1, " + what + ")", EdgeTransactionTest::some, x -> x.tx(1, what));
            Whole.none("tx(3, " + what + ") of none", EdgeTransactionTest::some, x -> x.tx(3, what));
        }
        AheadStore x = new AheadStore();
        some(x);
        for (int what = 0; what < 8; what++) {
            Due.is("tx(9, " + what + ") of none", x.tx(9, what), 0);
        }
    }

    /** "Of each record PREV is LAST of WHO, LAST is its STAMP then": of each its own */
    private static void prevIsLast() {
        AheadStore x = new AheadStore();
        x.act(1, 0);
        x.act(2, 0);
        x.add(1, 0, 1);
        x.add(2, 0, 1);
        x.keep(2, 0);
        x.add(1, 0, 1);
        x.act(2, 2);
        int[][] want = {{8, 0}, {14, 0}, {20, 8}, {28, 14}, {36, 0}, {42, 20}, {50, 28}};
        for (int[] w : want) {
            Due.is("PREV of " + w[0], x.record(w[0], 3), w[1]);
        }
        Due.is("LAST of 1", x.tx(1, 1), 42);
        Due.is("LAST of 2", x.tx(2, 1), 50);
    }
}
