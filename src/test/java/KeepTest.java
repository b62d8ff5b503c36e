/** Promise 9: keep, all of its seven. */
public final class KeepTest {
    public static void main(String[] args) {
        flushes();
        pageWritten();
        checkpoints();
        archive();
        lose();
        restore();
        down();
        Due.end("KeepTest");
    }

    private static void flushes() {
        AheadStore x = new AheadStore();
        Due.yes("whole, none there", x.keep(0, 0));
        Due.no("no record at 8", x.keep(0, 8));
        x.act(1, 0);
        x.write(1, 0, 1);
        x.write(1, 0, 2);
        Due.no("inside", x.keep(0, 9));
        Due.no("at END", x.keep(0, 32));
        Due.no("below 0", x.keep(0, -8));
        Due.is("FLUSHED", x.look(2), 8);
        Due.yes("through 14", x.keep(0, 14));
        Due.is("FLUSHED", x.look(2), 23);
        Due.yes("through 8", x.keep(0, 8));
        Due.is("it stays", x.look(2), 23);
        Due.yes("whole", x.keep(0, 0));
        Due.is("FLUSHED", x.look(2), 32);
        Due.no("keep(7, 0)", x.keep(7, 0));
        Due.no("keep(-1, 0)", x.keep(-1, 0));
    }

    private static void pageWritten() {
        AheadStore x = new AheadStore();
        x.act(1, 0);
        x.write(1, 20, 7);
        x.add(1, 21, 7);
        x.write(1, 0, 1);
        Due.no("in no FRAME", x.keep(1, 2));
        Due.no("PAGE -1", x.keep(1, -1));
        Due.no("PAGE 16", x.keep(1, 16));
        Due.yes("PAGE 1", x.keep(1, 1));
        Due.is("FLUSHED through its latest record", x.look(2), 31);
        Due.is("STAMP on DISK", x.page(1, 1), 23);
        Due.is("at(21, 1)", x.at(21, 1), 7);
        Due.is("REC", x.page(1, 3), 0);
        Due.is("it stays in its FRAME", x.page(1, 2), 0);
        Due.is("STAMP there", x.page(1, 0), 23);
        Due.no("clean", x.keep(1, 1));
        x.write(1, 22, 1);
        Due.is("REC anew", x.page(1, 3), 40);
    }

    private static void checkpoints() {
        AheadStore x = new AheadStore();
        Due.no("none is open", x.keep(3, 0));
        x.act(1, 0);
        Due.yes("begins, v not asked", x.keep(2, -77));
        Due.is("look(8)", x.look(8), 14);
        Due.is("MASTER", x.look(3), 0);
        Due.is("not flushed", x.look(2), 8);
        Due.no("one is open", x.keep(2, 0));
        x.write(1, 0, 1);
        Due.yes("ends, v not asked", x.keep(3, 99));
        Due.is("MASTER", x.look(3), 14);
        Due.is("look(8)", x.look(8), 0);
        Due.is("LENGTH", x.record(29, 1), 15);
        Due.is("flushed through it", x.look(2), 44);
        Due.is("NEEDED: record 1 of 1", x.look(9), 8);
        x.act(1, 1);
        Due.is("NEEDED: MASTER", x.look(9), 14);
        x.keep(2, 0);
        Due.is("the next", x.look(8), 56);
        x.crash(0);
        Due.is("a crash closes it", x.look(8), 0);
        x.recover(-1);
        Due.is("MASTER as it was", x.look(3), 14);
        Due.no("none is open", x.keep(3, 0));
    }

    private static void archive() {
        AheadStore x = new AheadStore();
        x.act(1, 0);
        x.write(1, 0, 1);
        Due.yes("dumped", x.keep(4, 0));
        Due.is("whatever a FRAME holds", x.page(0, 5), 0);
        x.keep(1, 0);
        Due.is("not yet", x.page(0, 5), 0);
        Due.yes("dumped", x.keep(4, 0));
        Due.is("STAMP in the ARCHIVE", x.page(0, 5), 14);
        Due.no("PAGE 16", x.keep(4, 16));
        Due.no("PAGE -1", x.keep(4, -1));
    }

    private static void lose() {
        AheadStore x = new AheadStore();
        x.frames(1);
        x.act(1, 0);
        x.act(2, 0);
        x.write(1, 0, 1);
        Due.no("in a FRAME", x.keep(5, 0));
        x.add(2, 16, 1);
        Due.no("written to", x.keep(5, 0));
        x.write(1, 32, 1);
        Due.no("added to", x.keep(5, 1));
        Due.no("PAGE 16", x.keep(5, 16));
        Due.no("PAGE -1", x.keep(5, -1));
        Due.yes("PAGE 15", x.keep(5, 15));
        x.act(1, 1);
        Due.yes("PAGE 0 when it is committed", x.keep(5, 0));
        Due.is("page(0, 1)", x.page(0, 1), 0);
        Due.is("at(0, 1)", x.at(0, 1), 0);
        Due.is("page(0, 4)", x.page(0, 4), 1);
        Due.is("look(14)", x.look(14), 32769);
        Due.no("LOST already", x.keep(5, 0));
        Due.no("dump one that is LOST", x.keep(4, 0));
        Due.no("write", x.write(2, 5, 1));
        Due.no("add", x.add(2, 5, 1));
        Due.is("it does not WAIT", x.tx(2, 5), 0);
    }

    private static void restore() {
        AheadStore x = new AheadStore();
        x.frames(1);
        x.act(1, 0);
        x.write(1, 0, 1);
        x.add(1, 1, 250);
        x.write(1, 16, 1);
        x.keep(4, 0);
        x.save(1);
        x.add(1, 1, 10);
        x.write(1, 0, 9);
        x.write(1, 2, 9);
        x.back(1, 0);
        x.add(1, 1, 20);
        x.write(1, 32, 1);
        x.act(1, 1);
        x.act(2, 0);
        Due.no("not LOST", x.keep(6, 0));
        Due.yes("lost", x.keep(5, 0));
        Due.no("PAGE 16", x.keep(6, 16));
        Due.no("PAGE -1", x.keep(6, -1));
        Due.yes("restored", x.keep(6, 0));
        Due.is("the log is flushed whole", x.look(2), x.look(1));
        Due.is("at(0, 1)", x.at(0, 1), 1);
        Due.is("at(1, 1)", x.at(1, 1), 14);
        Due.is("at(2, 1)", x.at(2, 1), 0);
        Due.is("its STAMP", x.page(0, 1), 99);
        Due.is("LOST no more", x.look(14), 0);
        Due.is("in no FRAME", x.page(0, 2), -1);
        Due.no("not LOST any more", x.keep(6, 0));
    }

    private static void down() {
        AheadStore x = new AheadStore();
        x.act(1, 0);
        x.write(1, 0, 1);
        x.keep(5, 9);
        x.keep(2, 0);
        x.crash(99);
        int[] with = {0, 0, 0, 0, 3, 3, 9};
        for (int what = 0; what < 7; what++) {
            Due.no("DOWN: keep(" + what + ", ..)", x.keep(what, with[what]));
        }
        Due.is("yet LOST", x.look(14), 512);
        x.recover(0);
        Due.is("restored by recovery, even one that crashed", x.look(14), 0);
    }
}
