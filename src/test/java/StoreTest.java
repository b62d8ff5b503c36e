/** Promises 1, 2, 17, 18: a new object, frames, at, page; which FRAME is taken, and what goes to DISK ahead. */
public final class StoreTest {
    public static void main(String[] args) {
        newObject();
        framesTold();
        stolen();
        usedByFetchAlone();
        claims();
        Due.end("StoreTest");
    }

    private static void newObject() {
        AheadStore x = new AheadStore();
        for (int a = 0; a < 256; a++) {
            for (int what = 0; what < 4; what++) {
                Due.is("new: at(" + a + ", " + what + ")", x.at(a, what), 0);
            }
            for (int what = 0; what < 3; what++) {
                Due.is("new: stand(" + a + ", " + what + ")", x.stand(a, what), 0);
            }
        }
        for (int p = 0; p < 16; p++) {
            for (int what = 0; what < 6; what++) {
                Due.is("new: page(" + p + ", " + what + ")", x.page(p, what), what == 2 ? -1 : 0);
            }
        }
        for (int t = 1; t < 10; t++) {
            for (int what = 0; what < 8; what++) {
                Due.is("new: tx(" + t + ", " + what + ")", x.tx(t, what), 0);
            }
        }
        int[] want = {1, 8, 8, 0, 4, 0, 0, 0, 0, 8, 0, 0, 0, 0, 0, 8, 8, 0, 0};
        for (int what = 0; what < want.length; what++) {
            Due.is("new: look(" + what + ")", x.look(what), want[what]);
        }
        for (int k = 1; k <= 10; k++) {
            Due.is("new: count(" + k + ")", x.count(k), 0);
        }
        Due.is("new: fault(0)", x.fault(0), 0);
        Due.is("new: fault(1)", x.fault(1), -1);
        for (int a : new int[] {-1, 256, Integer.MIN_VALUE, Integer.MAX_VALUE}) {
            Due.is("at(" + a + ", 0)", x.at(a, 0), -1);
            Due.is("page(" + a + ", 0)", x.page(a, 0), -1);
        }
        Due.is("at(0, -1)", x.at(0, -1), -1);
        Due.is("at(255, 4)", x.at(255, 4), -1);
        Due.is("page(16, 0)", x.page(16, 0), -1);
        Due.is("page(15, 6)", x.page(15, 6), -1);
        Due.is("page(15, -1)", x.page(15, -1), -1);
    }

    private static void framesTold() {
        AheadStore x = new AheadStore();
        Due.no("frames(0)", x.frames(0));
        Due.no("frames(-1)", x.frames(-1));
        Due.no("frames(9)", x.frames(9));
        Due.is("look(4)", x.look(4), 4);
        Due.yes("frames(8)", x.frames(8));
        Due.is("look(4)", x.look(4), 8);
        Due.yes("frames(1)", x.frames(1));
        Due.is("look(4)", x.look(4), 1);
        x.act(1, 0);
        Due.yes("frames(2): a transaction alone holds none", x.frames(2));
        x.write(1, 0, 0);
        Due.no("frames(3): one holds a PAGE", x.frames(3));
        x.keep(1, 0);
        Due.no("frames(3): clean, but held", x.frames(3));
        x.crash(0);
        Due.no("frames(3): DOWN", x.frames(3));
        x.recover(-1);
        Due.is("look(4) behind a crash", x.look(4), 2);
        Due.no("frames(3): recovery has fetched one", x.frames(3));
    }

    private static void stolen() {
        AheadStore x = new AheadStore();
        x.frames(2);
        x.act(1, 0);
        Due.yes("write at 14", x.write(1, 0, 1));
        Due.yes("write at 23", x.write(1, 16, 2));
        Due.yes("write at 32", x.write(1, 1, 3));
        Due.is("FLUSHED", x.look(2), 8);
        Due.yes("write at 41 steals PAGE 1", x.write(1, 32, 4));
        Due.is("FLUSHED through the record of its STAMP", x.look(2), 32);
        Due.is("page(1, 2)", x.page(1, 2), -1);
        Due.is("page(1, 1)", x.page(1, 1), 23);
        Due.is("page(1, 0)", x.page(1, 0), 23);
        Due.is("page(1, 3)", x.page(1, 3), 0);
        Due.is("at(16, 1)", x.at(16, 1), 2);
        Due.is("at(16, 0)", x.at(16, 0), 2);
        Due.is("page(2, 2)", x.page(2, 2), 1);
        Due.is("page(2, 3)", x.page(2, 3), 41);
        Due.is("page(0, 3): the first that made it unlike", x.page(0, 3), 14);
        Due.is("page(0, 0): the latest", x.page(0, 0), 32);
        Due.is("page(0, 1)", x.page(0, 1), 0);
        Due.is("at(1, 1)", x.at(1, 1), 0);
        Due.is("at(1, 0)", x.at(1, 0), 3);
        Due.is("look(5)", x.look(5), 2);
    }

    private static void usedByFetchAlone() {
        AheadStore x = new AheadStore();
        x.frames(2);
        x.act(1, 0);
        x.write(1, 0, 1);
        x.write(1, 16, 2);
        x.at(0, 0);
        x.page(0, 0);
        x.keep(1, 0);
        x.keep(4, 0);
        Due.is("clean", x.look(5), 1);
        Due.yes("write to PAGE 2", x.write(1, 32, 3));
        Due.is("PAGE 0 was used longest ago", x.page(0, 2), -1);
        Due.is("PAGE 1 stays", x.page(1, 2), 1);
        Due.is("a clean one is not written anew", x.look(2), 23);
        x.save(1);
        x.write(1, 33, 1);
        x.write(1, 16, 9);
        Due.is("back(1, 0)", x.back(1, 0), 2);
        Due.yes("write to PAGE 3", x.write(1, 48, 3));
        Due.is("back() used PAGE 1 first, PAGE 2 last", x.page(1, 2), -1);
        Due.is("PAGE 2", x.page(2, 2), 0);
    }

    private static void claims() {
        AheadStore x = new AheadStore();
        x.act(1, 0);
        x.act(9, 0);
        x.add(1, 7, 1);
        x.add(9, 7, 1);
        Due.is("at(7, 3)", x.at(7, 3), 2 + 512);
        Due.is("at(7, 2)", x.at(7, 2), 0);
        x.save(9);
        x.write(9, 8, 1);
        x.back(9, 0);
        Due.is("at(8, 2): undone or not", x.at(8, 2), 512);
        x.act(9, 1);
        Due.is("at(8, 2) at its end", x.at(8, 2), 0);
        Due.is("at(7, 3) at its end", x.at(7, 3), 2);
        x.act(1, 2);
        Due.is("at(7, 3): rolling back", x.at(7, 3), 2);
        x.roll(1, 1);
        Due.is("at(7, 3): yet there", x.at(7, 3), 2);
        x.roll(1, 1);
        Due.is("at(7, 3): gone", x.at(7, 3), 0);
    }
}
