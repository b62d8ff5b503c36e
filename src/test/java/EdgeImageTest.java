import java.util.function.Consumer;

/** The edges of THE IMAGE (term 8) and of promises 28 and 29. */
public final class EdgeImageTest {
    public static void main(String[] args) {
        goneBackToNone();
        takenChangesNothing();
        goneBackMoreThanOnce();
        takenAnew();
        ofANewObject();
        whenDown();
        notTheTape();
        notTheFault();
        withThePlan();
        withTheStandby();
        withThoseAtTheEdge();
        withTheArchive();
        lookOutside();
        lookAtTheEdge();
        Due.end("EdgeImageTest");
    }

    /** Of all that there is something. */
    private static void some(AheadStore x) {
        x.frames(3);
        Due.plan(x, "1 begin; 2 begin; flush; flush;");
        x.run(3);
        x.save(1);
        x.write(1, 0, 1);
        x.act(1, 3);
        x.write(1, 16, 2);
        x.write(2, 32, 3);
        x.write(2, 0, 4);
        x.write(1, 32, 4);
        x.keep(4, 0);
        x.keep(5, 9);
        x.keep(2, 0);
        x.keep(1, 1);
        x.ship(20);
        x.act(3, 0);
        x.add(3, 17, 1);
        x.act(3, 2);
        x.roll(3, 1);
    }

    private static void more(AheadStore x) {
        x.act(2, 2);
        x.roll(2, 9);
        x.write(1, 48, 9);
        x.write(1, 64, 9);
        x.act(1, 4);
        x.act(1, 1);
        x.keep(3, 0);
        x.keep(4, 0);
        x.keep(6, 9);
        x.run(1);
        x.ship(999);
        x.crash(3);
        x.recover(1);
        x.recover(-1);
        x.act(5, 0);
        x.write(5, 255, 255);
    }

    /** "false if there is none" */
    private static void goneBackToNone() {
        Whole.refused("image(false) of a new object", x -> { }, x -> x.image(false));
        Whole.refused("image(false) without one", EdgeImageTest::some, x -> x.image(false));
        Whole.refused("image(false) without one, DOWN", x -> {
            some(x);
            x.crash(5);
        }, x -> x.image(false));
        Whole.refused("image(false) behind would", x -> {
            some(x);
            x.would(0, 0, 0);
        }, x -> x.image(false));
    }

    /** Taking it changes nothing that is. */
    private static void takenChangesNothing() {
        Whole.same("image(true)", EdgeImageTest::some, x -> {
            some(x);
            Due.yes("image(true)", x.image(true));
        });
        Whole.same("image(true) and what goes on", x -> {
            some(x);
            more(x);
        }, x -> {
            some(x);
            x.image(true);
            more(x);
        });
    }

    /** "as it was when it was taken; gone back to it may be more than once" */
    private static void goneBackMoreThanOnce() {
        Consumer<AheadStore> once = x -> {
            some(x);
            x.image(true);
            more(x);
            Due.yes("image(false)", x.image(false));
        };
        Consumer<AheadStore> twice = x -> {
            once.accept(x);
            more(x);
            Due.yes("image(false)", x.image(false));
        };
        Consumer<AheadStore> atOnce = x -> {
            twice.accept(x);
            Due.yes("image(false)", x.image(false));
        };
        Whole.same("gone back", EdgeImageTest::some, once);
        Whole.same("gone back twice", EdgeImageTest::some, twice);
        Whole.same("gone back three times", EdgeImageTest::some, atOnce);
        Consumer<AheadStore> on = x -> {
            some(x);
            more(x);
        };
        Whole.same("gone back, and all goes on", on, once.andThen(EdgeImageTest::more));
        Whole.same("gone back twice, and all goes on", on, twice.andThen(EdgeImageTest::more));
    }

    /** The latest one is there alone. */
    private static void takenAnew() {
        Whole.same("taken anew", x -> {
            some(x);
            more(x);
        }, x -> {
            x.image(true);
            some(x);
            x.image(true);
            more(x);
            x.image(true);
            x.crash(0);
            x.image(false);
        });
    }

    private static void ofANewObject() {
        Whole.same("back to a new object", x -> { }, x -> {
            x.image(true);
            some(x);
            more(x);
            x.image(false);
        });
    }

    /** UP or DOWN is of it, too. */
    private static void whenDown() {
        Consumer<AheadStore> down = x -> {
            some(x);
            x.crash(5);
        };
        Whole.same("taken DOWN, gone back to UP", down, x -> {
            down.accept(x);
            x.image(true);
            x.recover(-1);
            x.image(false);
        });
        Whole.same("taken UP, gone back to DOWN", EdgeImageTest::some, x -> {
            some(x);
            x.image(true);
            x.crash(5);
            x.image(false);
        });
    }

    /** "but the TAPE" */
    private static void notTheTape() {
        AheadStore x = new AheadStore();
        Due.feed(x, "flush;");
        x.image(true);
        x.plan();
        Due.feed(x, "over;check;");
        x.image(false);
        Due.is("lines", x.look(10), 0);
        Due.is("the TAPE has what came since", x.plan(), 2);
    }

    /** "and fault()" */
    private static void notTheFault() {
        AheadStore x = new AheadStore();
        Due.plan(x, "flush");
        x.image(true);
        Due.plan(x, " 0 begin;");
        x.image(false);
        Due.is("FAULT", x.fault(0), 2);
        Due.is("its place", x.fault(1), 1);
        x.image(true);
        x.plan();
        x.image(false);
        Due.is("FAULT", x.fault(0), 0);
        Due.is("its place", x.fault(1), -1);
    }

    /** "all that is and was told": the plan, and how far it was run */
    private static void withThePlan() {
        AheadStore x = new AheadStore();
        Due.plan(x, "1 begin;2 begin;3 begin;");
        x.run(1);
        x.image(true);
        x.run(2);
        Due.plan(x, "flush;");
        x.image(false);
        Due.is("lines", x.look(10), 3);
        Due.is("lines run", x.look(11), 1);
        Due.is("run", x.run(24), 2);
        Due.is("running", x.look(6), 14);
    }

    private static void withTheStandby() {
        AheadStore x = new AheadStore();
        x.act(1, 0);
        x.write(1, 0, 1);
        x.keep(0, 0);
        x.ship(6);
        x.image(true);
        x.ship(999);
        x.image(false);
        Due.is("RECEIVED", x.look(15), 14);
        Due.is("DONE", x.look(16), 14);
        Due.is("byte 0", x.stand(0, 0), 0);
        Due.is("STAMP", x.stand(0, 2), 0);
        x.ship(999);
        Due.is("byte 0", x.stand(0, 0), 1);
    }

    /** 1 and 9 have savepoints and TOPS, and WAIT for each other. */
    private static void marked(AheadStore x) {
        for (int t : new int[] {1, 9}) {
            x.act(t, 0);
            x.write(t, 16 * t, t);
            x.save(t);
            x.write(t, 16 * t, 100 + t);
            x.act(t, 3);
            x.write(t, 16 * t, 200 + t);
        }
        x.write(1, 144, 1);
        x.write(9, 16, 1);
    }

    /** What goes back to savepoints and closes TOPS, so that what they are shows. */
    private static void used(AheadStore x) {
        for (int t : new int[] {1, 9}) {
            x.act(t, 4);
            x.back(t, 0);
            x.act(t, 1);
        }
    }

    /** Transactions 1 and 9, which others have taken the place of since */
    private static void withThoseAtTheEdge() {
        Consumer<AheadStore> gone = x -> {
            marked(x);
            x.image(true);
            for (int t : new int[] {1, 9}) {
                x.act(t, 2);
                x.roll(t, 20);
                x.act(t, 0);
                x.save(t);
                x.act(t, 3);
                x.write(t, t, t);
                x.save(t);
                x.act(t, 3);
                x.act(t, 2);
            }
            x.image(false);
        };
        Whole.same("1 and 9", EdgeImageTest::marked, gone);
        Consumer<AheadStore> on = EdgeImageTest::marked;
        Whole.same("1 and 9, and what goes on", on.andThen(EdgeImageTest::used), gone.andThen(EdgeImageTest::used));
        AheadStore x = new AheadStore();
        gone.accept(x);
        Due.is("DEADLOCK", x.look(17), 2 + 512);
        Due.yes("close", x.act(9, 4));
        Due.is("NEXT", x.record(x.tx(9, 1), 4), 56);
        Due.is("back", x.back(9, 0), 1);
        Due.is("byte 144", x.at(144, 0), 9);
    }

    private static void withTheArchive() {
        AheadStore x = new AheadStore();
        x.frames(1);
        x.act(1, 0);
        x.write(1, 0, 7);
        x.write(1, 16, 1);
        x.keep(4, 0);
        x.image(true);
        x.write(1, 0, 9);
        x.write(1, 16, 2);
        x.keep(4, 0);
        x.image(false);
        x.act(1, 1);
        Due.is("its STAMP", x.page(0, 5), 14);
        Due.yes("lost", x.keep(5, 0));
        Due.is("byte 0, in thought", x.would(0, 0, 0), 7);
        Due.yes("restored", x.keep(6, 0));
        Due.is("its byte", x.at(0, 1), 7);
    }

    /** "NONE - 99999 for another what" */
    private static void lookOutside() {
        for (int what : new int[] {-1, 19, 20, Integer.MIN_VALUE, Integer.MAX_VALUE}) {
            Whole.unchanged("look(" + what + ")", EdgeImageTest::some, x -> x.look(what), -100000);
        }
    }

    /** 0 .. 18, each of them. */
    private static void lookAtTheEdge() {
        AheadStore x = new AheadStore();
        some(x);
        // 1 at 8 and 14, FLUSHED 20; 2 at 20, 29, 38; 8 at 47; PAGE 1 written: FLUSHED 38; 1 at 53, 3 at 59, 6 at 67, 4 at 73
        int[] want = {1, 84, 38, 0, 3, 3, 6, 8, 47, 8, 4, 3, 0, 0, 512, 28, 20, 6, 10};
        for (int what = 0; what < 19; what++) {
            Due.is("look(" + what + ")", x.look(what), want[what]);
        }
    }
}
