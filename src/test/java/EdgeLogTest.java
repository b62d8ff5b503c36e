import java.util.function.Consumer;

/** The edges of THE LOG (term 2) and of promises 20, 21, 27. */
public final class EdgeLogTest {
    public static void main(String[] args) {
        firstAtEight();
        logOutside();
        prevOverTwoBytes();
        checkWraps();
        emptyCheckpoint();
        fullestCheckpoint();
        tornAtEachByte();
        wholeOnlyUpToTheFirstTorn();
        flushedInsideBehindACrashAlone();
        recordWrongPlaces();
        recordWrongWhats();
        recordHasNoneSuch();
        recordFlushedOrNot();
        countWrongKinds();
        countEachKind();
        cutBytesAreGone();
        masterOnlyBehindAnEnd();
        Due.end("EdgeLogTest");
    }

    /** "the first record begins at place 8"; "(8 at first)" */
    private static void firstAtEight() {
        AheadStore x = new AheadStore();
        Due.is("END", x.look(1), 8);
        Due.is("FLUSHED", x.look(2), 8);
        Due.is("MASTER", x.look(3), 0);
        Due.is("records", x.look(18), 0);
        Due.is("record(8, 0)", x.record(8, 0), -1);
        Due.is("log(8)", x.log(8), -1);
        x.act(1, 0);
        Due.is("record(8, 0)", x.record(8, 0), 1);
        Due.is("END", x.look(1), 14);
        Due.is("records", x.look(18), 1);
    }

    /** "Byte i of the log (8 .. END less 1). NONE if there is none such." */
    private static void logOutside() {
        Consumer<AheadStore> made = x -> {
            x.act(9, 0);
            x.write(9, 255, 255);
        };
        for (int i : new int[] {7, 0, -1, 23, 24, 8599, 8600, Integer.MIN_VALUE, Integer.MAX_VALUE}) {
            Whole.none("log(" + i + ")", made, x -> x.log(i));
        }
        AheadStore x = new AheadStore();
        made.accept(x);
        Due.is("the first", x.log(8), 1);
        Due.is("the last", x.log(22), (90 + 2 + 9 + 9 + 8 + 255 + 255) % 256);
    }

    private static AheadStore longAs(int writes, int adds) {
        AheadStore x = new AheadStore();
        x.act(1, 0);
        for (int i = 0; i < writes; i++) {
            x.write(1, 0, i);
        }
        for (int i = 0; i < adds; i++) {
            x.add(1, 0, 1);
        }
        return x;
    }

    /** "(.. the higher byte first; 0: none)": 255 is the last of one byte */
    private static void prevOverTwoBytes() {
        AheadStore x = longAs(1, 29);
        Due.is("END", x.look(1), 255);
        x.add(1, 1, 1);
        x.add(1, 1, 1);
        Due.is("PREV of 263", x.record(263, 3), 255);
        Due.is("its higher byte", x.log(266), 0);
        Due.is("its lower byte", x.log(267), 255);
        AheadStore y = longAs(2, 28);
        Due.is("END", y.look(1), 256);
        y.act(1, 3);
        y.add(1, 1, 1);
        y.act(1, 3);
        y.act(1, 4);
        Due.is("PREV of 264", y.record(264, 3), 256);
        Due.is("its higher byte", y.log(267), 1);
        Due.is("its lower byte", y.log(268), 0);
        Due.is("NEXT of 264", y.record(264, 4), 256);
        Due.is("its higher byte", y.log(269), 1);
        Due.is("its lower byte", y.log(270), 0);
        Due.is("PREV of the first one", y.record(8, 3), 0);
    }

    /** "CHECK: the sum of all its bytes ahead and 90, modulo 256" */
    private static void checkWraps() {
        int[][] want = {{145, 0, 255}, {146, 0, 0}, {146, 1, 1}, {146, 255, 255}, {255, 146, 255}, {255, 147, 0}};
        for (int[] w : want) {
            AheadStore x = new AheadStore();
            x.act(1, 0);
            x.write(1, w[0], w[1]);
            Due.is("CHECK of write(1, " + w[0] + ", " + w[1] + ")", x.log(22), w[2]);
            Due.is("it is whole", x.record(14, 0), 2);
            x.crash(99);
            Due.is("whole, DOWN", x.record(14, 0), 2);
        }
    }

    /** "(LENGTH 8 ..)": 0 transactions, 0 PAGES */
    private static void emptyCheckpoint() {
        AheadStore x = new AheadStore();
        x.keep(2, 0);
        x.keep(3, 0);
        int[] want = {8, 6, 0, 0, 0, 104, 10, 8, 0, 0, 0, 0, 0, 108};
        for (int i = 0; i < want.length; i++) {
            Due.is("log(" + (8 + i) + ")", x.log(8 + i), want[i]);
        }
        Due.is("END", x.look(1), 22);
        Due.is("FLUSHED", x.look(2), 22);
        Due.is("records", x.look(18), 2);
    }

    /** "how many transactions (0 .. 9) .. how many PAGES are not clean (0 .. 8)": all of both, by number */
    private static void fullestCheckpoint() {
        AheadStore x = new AheadStore();
        x.frames(8);
        for (int t = 9; t >= 1; t--) {
            x.act(t, 0);
        }
        // 9 begins at 8, 8 at 14, .. 1 at 56; END 62; then PAGES 15 .. 8 by 9 .. 2, nine bytes each
        for (int i = 0; i < 8; i++) {
            x.write(9 - i, 16 * (15 - i), 1);
        }
        x.act(5, 2);
        x.write(9, 240, 2);
        Due.is("END", x.look(1), 62 + 72 + 6 + 9);
        x.keep(2, 0);
        Due.yes("ends", x.keep(3, 0));
        int s = 155;
        Due.is("KIND", x.record(s, 0), 10);
        Due.is("LENGTH", x.record(s, 1), 68);
        Due.is("how many transactions", x.log(s + 5), 9);
        int[] last = {0, 56, 125, 116, 107, 134, 89, 80, 71, 140};
        for (int t = 1; t <= 9; t++) {
            int place = s + 6 + 4 * (t - 1);
            Due.is("its number", x.log(place), t);
            Due.is("its IS", x.log(place + 1), t == 5 ? 2 : 1);
            Due.is("its LAST", x.log(place + 2) * 256 + x.log(place + 3), last[t]);
        }
        Due.is("how many PAGES", x.log(s + 42), 8);
        for (int p = 8; p < 16; p++) {
            int place = s + 43 + 3 * (p - 8);
            Due.is("its number", x.log(place), p);
            Due.is("its REC", x.log(place + 1) * 256 + x.log(place + 2), 62 + 9 * (15 - p));
        }
        Due.is("END", x.look(1), s + 68);
        x.crash(0);
        Due.is("LOSERS", x.would(0, 0, 261), 1022);
        Due.is("recover: nine compensations, nine ends", x.recover(-1), 18);
        Due.is("REDONE by what it told", x.look(12), 9);
    }

    private static void torn(String name, Consumer<AheadStore> made, int length) {
        AheadStore y = new AheadStore();
        made.accept(y);
        int s = y.look(1) - length;
        int records = y.look(18);
        y.keep(0, 0);
        for (int m = 0; m <= length + 1; m++) {
            AheadStore x = new AheadStore();
            made.accept(x);
            x.crash(s - x.look(2) + m);
            boolean whole = m >= length;
            Due.is(name + " torn at " + m + ": END", x.look(1), s + Math.min(m, length));
            Due.is(name + " torn at " + m + ": KIND", x.record(s, 0), whole ? y.record(s, 0) : -1);
            Due.is(name + " torn at " + m + ": records", x.look(18), whole ? records : records - 1);
            Due.is(name + " torn at " + m + ": asOf", x.asOf(0, s), whole ? y.asOf(0, s) : -1);
            x.recover(0);
            Due.is(name + " torn at " + m + ": END behind recovery", x.look(1), whole ? s + length : s);
        }
    }

    /** "it ends at END at most" */
    private static void tornAtEachByte() {
        Consumer<AheadStore> begun = x -> x.act(1, 0);
        Consumer<AheadStore> written = begun.andThen(x -> {
            x.save(1);
            x.write(1, 0, 200);
        });
        torn("1", begun, 6);
        torn("2", written, 9);
        torn("3", begun.andThen(x -> x.add(1, 0, 99)), 8);
        torn("4", written.andThen(x -> x.back(1, 0)), 11);
        torn("6", written.andThen(x -> x.act(1, 2)), 6);
        torn("7", written.andThen(x -> x.act(1, 1)), 6);
        torn("8", written.andThen(x -> x.keep(2, 0)), 6);
        torn("9", written.andThen(x -> x.act(1, 3)).andThen(x -> x.act(1, 4)), 8);
    }

    /** "as long as they are whole" */
    private static void wholeOnlyUpToTheFirstTorn() {
        AheadStore x = new AheadStore();
        x.act(1, 0);
        x.write(1, 0, 1);
        x.act(2, 0);
        x.write(2, 16, 1);
        x.crash(20);
        Due.is("count(1)", x.count(1), 1);
        Due.is("count(2)", x.count(2), 1);
        Due.is("look(18)", x.look(18), 2);
        Due.is("five bytes of the third", x.log(27), 0);
        Due.is("record(23, 0)", x.record(23, 0), -1);
    }

    /** "never inside a record but behind a crash" */
    private static void flushedInsideBehindACrashAlone() {
        AheadStore x = new AheadStore();
        x.act(1, 0);
        x.write(1, 0, 1);
        x.crash(10);
        Due.is("FLUSHED inside the second", x.look(2), 18);
        x.recover(-1);
        Due.is("where that one would begin, and a record 7", x.look(2), 20);
        Due.is("KIND", x.record(14, 0), 7);
    }

    private static void three(AheadStore x) {
        x.act(1, 0);
        x.write(1, 77, 5);
        x.keep(0, 0);
        x.add(1, 78, 5);
    }

    /** "NONE if none whole begins there" */
    private static void recordWrongPlaces() {
        for (int s : new int[] {0, 7, 9, 13, 15, 22, 24, 31, 32, -8, Integer.MIN_VALUE, Integer.MAX_VALUE}) {
            Whole.none("record(" + s + ", 0)", EdgeLogTest::three, x -> x.record(s, 0));
            AheadStore x = new AheadStore();
            three(x);
            for (int what = 1; what < 7; what++) {
                Due.is("record(" + s + ", " + what + ")", x.record(s, what), -1);
            }
        }
    }

    /** "or another what" */
    private static void recordWrongWhats() {
        for (int what : new int[] {-1, 7, 256, Integer.MIN_VALUE, Integer.MAX_VALUE}) {
            Whole.none("record(14, " + what + ")", EdgeLogTest::three, x -> x.record(14, what));
        }
    }

    /** "it has none such": NEXT (4, 9), ADDRESS (2, 3, 4) */
    private static void recordHasNoneSuch() {
        AheadStore x = new AheadStore();
        x.act(1, 0);
        x.save(1);
        x.write(1, 0, 5);
        x.add(1, 255, 5);
        x.back(1, 0);
        x.act(1, 3);
        x.act(1, 4);
        x.keep(2, 0);
        x.keep(3, 0);
        x.act(1, 2);
        x.roll(1, 1);
        x.act(2, 0);
        x.act(2, 1);
        // 1 at 8, 2 at 14, 3 at 23, 4 at 31 and 42, 9 at 53, 8 at 61, 10 at 67 (one transaction, two PAGES), 6 at 85,
        // 7 at 91, 1 at 97, 5 at 103, 7 at 109
        int[][] want = {{8, 1, -1, -1}, {14, 2, -1, 0}, {23, 3, -1, 255}, {31, 4, 14, 255}, {42, 4, 8, 0}, {53, 9, 42, -1},
            {61, 8, -1, -1}, {67, 10, -1, -1}, {85, 6, -1, -1}, {91, 7, -1, -1}, {97, 1, -1, -1}, {103, 5, -1, -1},
            {109, 7, -1, -1}};
        int[] lengths = {0, 6, 9, 8, 11, 6, 6, 6, 6, 8};
        for (int[] w : want) {
            Due.is("KIND of " + w[0], x.record(w[0], 0), w[1]);
            Due.is("NEXT of " + w[0], x.record(w[0], 4), w[2]);
            Due.is("ADDRESS of " + w[0], x.record(w[0], 5), w[3]);
            Due.is("LENGTH of " + w[0], x.record(w[0], 1), w[1] == 10 ? 18 : lengths[w[1]]);
        }
        Due.is("WHO of 8", x.record(61, 2), 0);
        Due.is("PREV of 8", x.record(61, 3), 0);
        Due.is("WHO of 10", x.record(67, 2), 0);
        Due.is("PREV of 10", x.record(67, 3), 0);
        Due.is("NEXT that is 0", nextOfNone(), 0);
    }

    private static int nextOfNone() {
        AheadStore x = new AheadStore();
        x.act(1, 0);
        x.act(1, 3);
        x.act(1, 4);
        Due.is("NEXT of one that was opened behind BEGIN", x.record(14, 4), 8);
        Due.is("PREV of BEGIN", x.record(8, 3), 0);
        return x.record(8, 3);
    }

    /** "6 whether it is flushed (1, 0)": up to its last byte */
    private static void recordFlushedOrNot() {
        AheadStore x = new AheadStore();
        three(x);
        Due.is("8", x.record(8, 6), 1);
        Due.is("14, the last one that is", x.record(14, 6), 1);
        Due.is("23, the first one that is not", x.record(23, 6), 0);
        x.crash(7);
        Due.is("DOWN, torn", x.record(23, 6), -1);
        AheadStore y = new AheadStore();
        three(y);
        y.crash(8);
        Due.is("DOWN, whole", y.record(23, 6), 1);
    }

    /** "NONE if k can't be (1 .. 10)" */
    private static void countWrongKinds() {
        for (int k : new int[] {0, 11, -1, Integer.MIN_VALUE, Integer.MAX_VALUE}) {
            Whole.none("count(" + k + ")", EdgeLogTest::three, x -> x.count(k));
        }
        AheadStore x = new AheadStore();
        for (int k = 1; k <= 10; k++) {
            Due.is("count(" + k + ") of none", x.count(k), 0);
        }
    }

    /** Each KIND from 1 to 10 is counted apart. */
    private static void countEachKind() {
        AheadStore x = new AheadStore();
        for (int t = 1; t <= 9; t++) {
            x.act(t, 0);
        }
        for (int i = 0; i < 8; i++) {
            x.write(1, i, 1);
        }
        for (int i = 0; i < 7; i++) {
            x.add(2, 100 + i, 1);
        }
        for (int i = 0; i < 6; i++) {
            x.act(3, 3);
            x.act(3, 4);
        }
        for (int t = 4; t <= 8; t++) {
            x.act(t, 1);
        }
        x.act(1, 2);
        x.act(2, 2);
        x.act(9, 2);
        x.roll(1, 4);
        x.roll(9, 1);
        x.keep(2, 0);
        x.keep(3, 0);
        x.keep(2, 0);
        int[] want = {0, 9, 8, 7, 4, 5, 3, 6, 2, 6, 1};
        int all = 0;
        for (int k = 1; k <= 10; k++) {
            Due.is("count(" + k + ")", x.count(k), want[k]);
            all += want[k];
        }
        Due.is("look(18)", x.look(18), all);
    }

    /** "(the bytes from there on are 0)": what was cut off never comes back */
    private static void cutBytesAreGone() {
        AheadStore x = new AheadStore();
        x.act(1, 0);
        x.act(1, 1);
        x.act(2, 0);
        x.write(2, 0, 9);
        x.write(2, 1, 9);
        // 1 at 8, 5 at 14, 7 at 20, 1 at 26, 2 at 32, 2 at 41
        x.keep(0, 26);
        x.crash(17);
        Due.is("END", x.look(1), 49);
        x.recover(-1);
        Due.is("4 behind what was whole", x.record(41, 0), 4);
        Due.is("END: 4 and 7", x.look(1), 58);
        Due.is("log(58)", x.log(58), -1);
        x.crash(0);
        x.recover(-1);
        Due.is("END", x.look(1), 58);
        Due.is("records 2", x.count(2), 1);
        Due.is("at(1, 0)", x.at(1, 0), 0);
    }

    /** "the STAMP of the latest checkpoint's beginning whose end is flushed (0 at first)" */
    private static void masterOnlyBehindAnEnd() {
        AheadStore x = new AheadStore();
        x.keep(2, 0);
        Due.is("begun alone", x.look(3), 0);
        x.keep(0, 0);
        Due.is("begun and flushed", x.look(3), 0);
        x.keep(3, 0);
        Due.is("ended", x.look(3), 8);
        x.keep(2, 0);
        Due.is("the next has begun", x.look(3), 8);
        x.keep(0, 0);
        x.crash(0);
        Due.is("DOWN", x.look(3), 8);
        x.recover(-1);
        Due.is("recovered", x.look(3), 8);
        Due.is("it is in the row, without an end", x.count(8), 2);
        x.keep(2, 0);
        x.keep(3, 0);
        Due.is("the latest", x.look(3), 28);
    }
}
