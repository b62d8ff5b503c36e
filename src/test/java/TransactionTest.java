/** Promises 3 to 8 and 19: act, write, add, save, back, roll, tx. */
public final class TransactionTest {
    public static void main(String[] args) {
        acts();
        writes();
        adds();
        savepoints();
        savepointsAndTops();
        tops();
        rolling();
        gonebacksAreNotUndone();
        Due.end("TransactionTest");
    }

    private static void acts() {
        AheadStore x = new AheadStore();
        for (int t : new int[] {0, 10, -1, Integer.MIN_VALUE, Integer.MAX_VALUE}) {
            for (int what = 0; what < 5; what++) {
                Due.no("act(" + t + ", " + what + ")", x.act(t, what));
            }
        }
        Due.no("act(1, -1)", x.act(1, -1));
        Due.no("act(1, 5)", x.act(1, 5));
        for (int what = 1; what < 5; what++) {
            Due.no("act(3, " + what + ") of none", x.act(3, what));
        }
        Due.is("nothing was written", x.look(1), 8);
        Due.yes("begin", x.act(3, 0));
        Due.no("begin twice", x.act(3, 0));
        Due.is("look(6)", x.look(6), 8);
        Due.no("close, none open", x.act(3, 4));
        Due.yes("commit", x.act(3, 1));
        Due.is("FLUSHED through 5", x.look(2), 20);
        Due.is("END behind 7", x.look(1), 26);
        Due.is("record 5", x.record(14, 0), 5);
        Due.is("record 7", x.record(20, 0), 7);
        Due.is("7 has 5 as PREV", x.record(20, 3), 14);
        Due.is("tx(3, 0)", x.tx(3, 0), 0);
        Due.is("tx(3, 1)", x.tx(3, 1), 0);
        Due.yes("begin anew", x.act(3, 0));
        Due.is("PREV of the new one", x.record(26, 3), 0);
        Due.yes("abort", x.act(3, 2));
        for (int what = 0; what < 5; what++) {
            Due.no("act(3, " + what + ") of one that is rolling back", x.act(3, what));
        }
        Due.is("look(6)", x.look(6), 0);
        Due.is("look(7)", x.look(7), 8);
        Due.is("save(3)", x.save(3), -1);
        Due.no("write(3, 0, 0)", x.write(3, 0, 0));
        Due.no("add(3, 0, 1)", x.add(3, 0, 1));
        Due.is("tx(0, 0)", x.tx(0, 0), -1);
        Due.is("tx(10, 0)", x.tx(10, 0), -1);
        Due.is("tx(3, 8)", x.tx(3, 8), -1);
        Due.is("tx(3, -1)", x.tx(3, -1), -1);
        x.crash(0);
        Due.no("begin, DOWN", x.act(1, 0));
    }

    private static void writes() {
        AheadStore x = new AheadStore();
        Due.no("write of none", x.write(2, 0, 1));
        x.act(2, 0);
        Due.no("a -1", x.write(2, -1, 1));
        Due.no("a 256", x.write(2, 256, 1));
        Due.no("v -1", x.write(2, 0, -1));
        Due.no("v 256", x.write(2, 0, 256));
        Due.is("no record yet", x.look(1), 14);
        Due.is("no FRAME yet", x.page(0, 2), -1);
        Due.yes("v 0", x.write(2, 255, 0));
        Due.yes("v 255", x.write(2, 255, 255));
        Due.is("at(255, 0)", x.at(255, 0), 255);
        Due.is("WAS", x.log(23 + 6), 0);
        Due.is("IS", x.log(23 + 7), 255);
        Due.is("LAST", x.tx(2, 1), 23);
        x.act(1, 0);
        Due.no("another has written", x.write(1, 255, 1));
        Due.is("WAITS", x.tx(1, 5), 4);
        Due.yes("its own", x.write(2, 255, 3));
        x.add(2, 0, 1);
        Due.no("another has added", x.write(1, 0, 1));
        Due.yes("own added", x.write(2, 0, 7));
    }

    private static void adds() {
        AheadStore x = new AheadStore();
        x.act(2, 0);
        Due.no("v 0", x.add(2, 0, 0));
        Due.no("v 256", x.add(2, 0, 256));
        Due.no("v -1", x.add(2, 0, -1));
        Due.no("a 256", x.add(2, 256, 1));
        Due.yes("v 255", x.add(2, 0, 255));
        Due.yes("v 2", x.add(2, 0, 2));
        Due.is("modulo 256", x.at(0, 0), 1);
        x.act(1, 0);
        Due.yes("another has added", x.add(1, 0, 1));
        x.write(2, 1, 1);
        Due.no("another has written", x.add(1, 1, 1));
        x.act(2, 2);
        Due.no("another that is rolling back has written", x.add(1, 1, 1));
        x.roll(2, 20);
        Due.yes("it is gone", x.add(1, 1, 1));
        Due.is("only its own is left", x.at(0, 0), 1);
    }

    private static void savepoints() {
        AheadStore x = new AheadStore();
        Due.is("save(1) of none", x.save(1), -1);
        Due.is("save(0)", x.save(0), -1);
        Due.is("save(10)", x.save(10), -1);
        x.act(1, 0);
        for (int i = 0; i < 8; i++) {
            Due.is("save", x.save(1), i);
            Due.yes("write", x.write(1, i, i + 1));
        }
        Due.is("the ninth", x.save(1), -1);
        Due.is("tx(1, 3)", x.tx(1, 3), 8);
        Due.is("back(1, 8)", x.back(1, 8), -1);
        Due.is("back(1, -1)", x.back(1, -1), -1);
        Due.is("back(2, 0)", x.back(2, 0), -1);
        Due.is("back(1, 5)", x.back(1, 5), 3);
        Due.is("tx(1, 3)", x.tx(1, 3), 6);
        Due.is("at(5, 0)", x.at(5, 0), 0);
        Due.is("at(4, 0)", x.at(4, 0), 5);
        Due.is("again, undoing none", x.back(1, 5), 0);
        Due.is("back(1, 6) is gone", x.back(1, 6), -1);
        Due.is("three records 4", x.count(4), 3);
        // written 9 bytes each from 14 on: 5 at 59, 6 at 68, 7 at 77; compensations at 86, 97, 108
        Due.is("NEXT of the first", x.record(86, 4), 68);
        Due.is("NEXT of the last", x.record(108, 4), 50);
        Due.is("PREV of the last", x.record(108, 3), 97);
        Due.is("save anew", x.save(1), 6);
        x.write(1, 100, 1);
        Due.is("back(1, 0)", x.back(1, 0), 6);
        for (int a = 0; a < 8; a++) {
            Due.is("at(" + a + ", 0)", x.at(a, 0), 0);
        }
        Due.is("COST", x.tx(1, 6), 0);
    }

    private static void savepointsAndTops() {
        AheadStore x = new AheadStore();
        x.act(1, 0);
        x.act(1, 3);
        x.save(1);
        x.write(1, 0, 1);
        x.act(1, 3);
        x.write(1, 1, 1);
        x.act(1, 3);
        Due.is("tx(1, 4)", x.tx(1, 4), 3);
        Due.is("back(1, 0)", x.back(1, 0), 2);
        Due.is("TOPS whose STAMP is that of s stay", x.tx(1, 4), 1);
        Due.yes("close", x.act(1, 4));
        Due.is("NEXT is what was put by", x.record(x.tx(1, 1), 4), 8);
        for (int i = 0; i < 4; i++) {
            x.write(1, 9, i);
            x.act(1, 3);
        }
        Due.is("back over four TOPS", x.back(1, 0), 4);
        Due.is("all are gone", x.tx(1, 4), 0);
        x.save(1);
        x.act(1, 3);
        x.write(1, 5, 1);
        x.act(1, 4);
        x.add(1, 6, 9);
        Due.is("what lies in a closed one is not undone", x.back(1, 1), 1);
        Due.is("at(5, 0)", x.at(5, 0), 1);
        Due.is("at(6, 0)", x.at(6, 0), 0);
    }

    private static void tops() {
        AheadStore x = new AheadStore();
        Due.no("open of none", x.act(1, 3));
        x.act(1, 0);
        for (int i = 0; i < 4; i++) {
            Due.yes("open", x.act(1, 3));
            x.write(1, i, 1);
        }
        Due.no("the fifth", x.act(1, 3));
        Due.is("tx(1, 4)", x.tx(1, 4), 4);
        Due.no("commit with TOPS open", x.act(1, 1));
        Due.yes("close the latest", x.act(1, 4));
        Due.is("its NEXT", x.record(50, 4), 32);
        Due.is("KIND", x.record(50, 0), 9);
        Due.is("COST: that of the closed one is not undone", x.tx(1, 6), 3);
        Due.yes("close", x.act(1, 4));
        Due.is("its NEXT", x.record(58, 4), 23);
        Due.is("COST", x.tx(1, 6), 2);
        Due.yes("abort with TOPS open", x.act(1, 2));
        Due.is("TOPS gone", x.tx(1, 4), 0);
        Due.is("roll", x.roll(1, 20), 3);
        for (int a = 0; a < 4; a++) {
            Due.is("at(" + a + ", 0)", x.at(a, 0), a < 2 ? 0 : 1);
        }
    }

    private static void rolling() {
        AheadStore x = new AheadStore();
        x.act(4, 0);
        Due.is("roll of one that is running", x.roll(4, 1), -1);
        x.write(4, 10, 3);
        x.add(4, 10, 4);
        x.save(4);
        x.act(4, 2);
        Due.is("savepoints gone", x.tx(4, 3), 0);
        Due.is("CURSOR at record 6", x.tx(4, 2), 31);
        Due.is("COST", x.tx(4, 6), 2);
        Due.is("roll(4, 0)", x.roll(4, 0), -1);
        Due.is("roll(4, 21)", x.roll(4, 21), -1);
        Due.is("roll(0, 1)", x.roll(0, 1), -1);
        Due.is("roll(10, 1)", x.roll(10, 1), -1);
        Due.is("one step", x.roll(4, 1), 1);
        Due.is("CURSOR is the PREV of what was undone", x.tx(4, 2), 14);
        Due.is("at(10, 0)", x.at(10, 0), 3);
        Due.is("KIND 4", x.record(37, 0), 4);
        Due.is("HOW 1", x.log(37 + 6), 1);
        Due.is("256 less MUCH", x.log(37 + 7), 252);
        Due.is("COST", x.tx(4, 6), 1);
        Due.is("the second", x.roll(4, 1), 1);
        Due.is("CURSOR moves on at the next step alone", x.tx(4, 2), 8);
        Due.is("HOW 0", x.log(48 + 6), 0);
        Due.is("V is WAS", x.log(48 + 7), 0);
        Due.is("yet there", x.tx(4, 0), 2);
        Due.is("record 7", x.roll(4, 20), 1);
        Due.is("gone", x.tx(4, 0), 0);
        Due.is("KIND 7", x.record(59, 0), 7);
        Due.is("PREV", x.record(59, 3), 48);
        Due.is("roll of none", x.roll(4, 1), -1);
        Due.is("nothing is flushed by it", x.look(2), 8);
    }

    private static void gonebacksAreNotUndone() {
        AheadStore x = new AheadStore();
        x.act(1, 0);
        x.add(1, 0, 10);
        x.save(1);
        x.add(1, 0, 20);
        x.add(1, 0, 30);
        x.back(1, 0);
        x.add(1, 0, 40);
        Due.is("COST", x.tx(1, 6), 2);
        x.act(1, 2);
        Due.is("roll: the 40, the 10, record 7", x.roll(1, 9), 3);
        Due.is("at(0, 0)", x.at(0, 0), 0);
        Due.is("records 4", x.count(4), 4);
    }
}
