/** Promises 28 and 29: image and look. */
public final class ImageTest {
    public static void main(String[] args) {
        images();
        everything();
        savepointsAndTops();
        archive();
        looks();
        Due.end("ImageTest");
    }

    private static void images() {
        AheadStore x = new AheadStore();
        Due.no("none yet", x.image(false));
        x.act(1, 0);
        x.write(1, 0, 1);
        Due.yes("taken", x.image(true));
        x.write(1, 0, 2);
        x.act(1, 1);
        Due.yes("gone back", x.image(false));
        Due.is("at(0, 0)", x.at(0, 0), 1);
        Due.is("END", x.look(1), 23);
        Due.yes("all goes on", x.write(1, 0, 7));
        Due.is("at(0, 0)", x.at(0, 0), 7);
        Due.yes("gone back once more", x.image(false));
        Due.is("at(0, 0)", x.at(0, 0), 1);
        x.write(1, 1, 9);
        Due.yes("taken anew", x.image(true));
        x.crash(0);
        Due.yes("gone back, DOWN", x.image(false));
        Due.is("UP", x.look(0), 1);
        Due.is("crashes", x.look(13), 0);
        Due.is("at(1, 0)", x.at(1, 0), 9);
        x.crash(5);
        Due.yes("taken, DOWN", x.image(true));
        x.recover(-1);
        Due.yes("gone back", x.image(false));
        Due.is("DOWN", x.look(0), 0);
        Due.is("END", x.look(1), 13);
    }

    private static void everything() {
        AheadStore x = new AheadStore();
        x.frames(3);
        Due.plan(x, "9 begin; 8 begin; 7 begin;");
        x.run(2);
        x.write(9, 0, 1);
        x.write(8, 16, 1);
        x.write(9, 16, 1);
        x.write(8, 0, 1);
        x.save(9);
        x.act(9, 3);
        x.keep(1, 0);
        x.keep(4, 0);
        x.keep(5, 15);
        x.keep(2, 0);
        x.ship(20);
        int[] looks = new int[19];
        for (int i = 0; i < 19; i++) {
            looks[i] = x.look(i);
        }
        x.feed(0x20202020, 0x20202020, 0x20202020, 0x20202020, 0x20202020);
        x.image(true);
        x.feed(0x20202020, 0x20202020, 0x20202020, 0x20202020, 0x20202020);
        Due.is("plan", x.plan(), 0);
        Due.plan(x, "?");
        x.crash(0);
        x.recover(-1);
        x.ship(999);
        x.frames(8);
        Due.is("the TAPE", x.feed(0x20202020, 0x20202020, 0x20202020, 0x20202020, 0x20202020), 20);
        x.image(false);
        for (int i = 0; i < 19; i++) {
            Due.is("look(" + i + ")", x.look(i), looks[i]);
        }
        Due.is("fault() is not of it", x.fault(0), 1);
        Due.is("the TAPE is not of it", x.feed(0, 0, 0, 0, 0), 40);
        Due.is("tx(9, 5)", x.tx(9, 5), 256);
        Due.is("tx(8, 5)", x.tx(8, 5), 512);
        Due.is("SAVEPOINTS", x.tx(9, 3), 1);
        Due.is("TOPS", x.tx(9, 4), 1);
        Due.is("ARCHIVE", x.page(0, 5), 20);
        Due.is("at(16, 2)", x.at(16, 2), 256);
        Due.is("the plan goes on", x.run(1), 1);
        Due.is("7 has begun", x.tx(7, 0), 1);
        Due.is("back", x.back(9, 0), 0);
        // PAGE 1 is used last, so with PAGES 2, 3 both in FRAMES PAGE 0 is the one that goes
        x.write(8, 32, 1);
        x.write(8, 48, 1);
        Due.is("when it was used, too", x.page(0, 2), -1);
        Due.is("PAGE 1", x.page(1, 2), 1);
    }

    private static void savepointsAndTops() {
        AheadStore x = new AheadStore();
        x.act(9, 0);
        x.save(9);
        x.write(9, 0, 1);
        x.act(9, 3);
        x.write(9, 1, 1);
        x.image(true);
        x.act(9, 2);
        x.roll(9, 9);
        x.act(9, 0);
        x.write(9, 0, 1);
        x.save(9);
        x.act(9, 3);
        x.image(false);
        Due.yes("close", x.act(9, 4));
        Due.is("NEXT is what was put by", x.record(32, 4), 14);
        Due.is("back to where it was", x.back(9, 0), 1);
        Due.is("at(0, 0)", x.at(0, 0), 0);
        Due.is("at(1, 0)", x.at(1, 0), 1);
    }

    private static void archive() {
        AheadStore x = new AheadStore();
        x.frames(1);
        x.act(1, 0);
        x.write(1, 0, 7);
        x.act(1, 1);
        x.act(2, 0);
        x.write(2, 16, 1);
        x.keep(4, 0);
        Due.yes("lost", x.keep(5, 0));
        Due.is("would restores it out of the ARCHIVE", x.would(0, 0, 0), 7);
        x.image(true);
        x.keep(6, 0);
        x.act(2, 1);
        x.act(1, 0);
        x.write(1, 0, 9);
        x.write(1, 16, 9);
        x.keep(4, 0);
        x.image(false);
        Due.is("ARCHIVE", x.page(0, 5), 14);
        x.keep(6, 0);
        Due.is("at(0, 1)", x.at(0, 1), 7);
    }

    private static void looks() {
        AheadStore x = new AheadStore();
        for (int what : new int[] {-1, 19, 20, Integer.MIN_VALUE, Integer.MAX_VALUE}) {
            Due.is("look(" + what + ")", x.look(what), -100000);
        }
        x.act(1, 0);
        x.act(9, 0);
        x.write(9, 0, 1);
        x.act(9, 2);
        Due.is("running", x.look(6), 2);
        Due.is("rolling back", x.look(7), 512);
        x.keep(2, 0);
        x.keep(3, 0);
        Due.is("MASTER", x.look(3), 35);
        Due.is("NEEDED: record 1 of 1", x.look(9), 8);
        x.act(1, 1);
        Due.is("NEEDED: record 1 of 9", x.look(9), 14);
        x.roll(9, 9);
        Due.is("NEEDED: REC of PAGE 0", x.look(9), 20);
        x.keep(1, 0);
        Due.is("NEEDED: MASTER", x.look(9), 35);
        x.crash(0);
        Due.is("NEEDED, DOWN", x.look(9), 8);
        x.recover(-1);
        Due.is("NEEDED, UP", x.look(9), 35);
    }
}
