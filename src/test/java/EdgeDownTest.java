import java.util.function.Consumer;

/** "DOWN behind a crash, till recovery is through (then only recovery goes, and what is asked)" (term 3). */
public final class EdgeDownTest {
    public static void main(String[] args) {
        refusedWhenDown();
        refusedBetweenRecoveries();
        askedWhenDown();
        goesWhenDown();
        recoveryWhenUp();
        upAtFirstAndAgain();
        Due.end("EdgeDownTest");
    }

    /** A committed one, a loser, a torn end, an open checkpoint, a LOST PAGE, a plan with a line to run. */
    private static void down(AheadStore x) {
        Due.plan(x, "1 begin; 1 write 0 5; 1 commit; 5 begin;");
        x.run(3);
        x.act(2, 0);
        x.save(2);
        x.act(2, 3);
        x.write(2, 16, 6);
        x.keep(0, 0);
        x.keep(5, 9);
        x.keep(2, 0);
        x.write(2, 17, 7);
        // 1 at 8, 2 at 14, 5 at 23, 7 at 29, 1 at 35, 2 at 41 (FLUSHED 50), 8 at 50, 2 at 56
        x.crash(10);
    }

    private static void allRefused(String when, Consumer<AheadStore> made) {
        Whole.refused("frames(4), " + when, made, x -> x.frames(4));
        for (int t : new int[] {1, 2, 3}) {
            for (int what = 0; what < 5; what++) {
                int which = what;
                Whole.refused("act(" + t + ", " + what + "), " + when, made, x -> x.act(t, which));
            }
            Whole.refused("write(" + t + ", 0, 1), " + when, made, x -> x.write(t, 0, 1));
            Whole.refused("add(" + t + ", 0, 1), " + when, made, x -> x.add(t, 0, 1));
            Whole.none("save(" + t + "), " + when, made, x -> x.save(t));
            Whole.none("back(" + t + ", 0), " + when, made, x -> x.back(t, 0));
            Whole.none("roll(" + t + ", 1), " + when, made, x -> x.roll(t, 1));
        }
        Whole.refused("flush whole, " + when, made, x -> x.keep(0, 0));
        Whole.refused("flush through 8, " + when, made, x -> x.keep(0, 8));
        Whole.refused("PAGE 0 written, " + when, made, x -> x.keep(1, 0));
        Whole.refused("a checkpoint begins, " + when, made, x -> x.keep(2, 0));
        Whole.refused("a checkpoint ends, " + when, made, x -> x.keep(3, 0));
        Whole.refused("PAGE 0 dumped, " + when, made, x -> x.keep(4, 0));
        Whole.refused("PAGE 8 lost, " + when, made, x -> x.keep(5, 8));
        Whole.refused("PAGE 9 restored, " + when, made, x -> x.keep(6, 9));
        Whole.refused("crash(0), " + when, made, x -> x.crash(0));
        Whole.refused("crash(999), " + when, made, x -> x.crash(999));
        Whole.none("run(1), " + when, made, x -> x.run(1));
        Whole.none("run(24), " + when, made, x -> x.run(24));
    }

    private static void refusedWhenDown() {
        allRefused("DOWN", EdgeDownTest::down);
    }

    /** DOWN anew, as recovery has crashed in itself */
    private static void refusedBetweenRecoveries() {
        allRefused("DOWN anew", x -> {
            down(x);
            x.recover(1);
        });
    }

    /** "and what is asked" */
    private static void askedWhenDown() {
        AheadStore x = new AheadStore();
        down(x);
        Due.is("UP", x.look(0), 0);
        Due.is("END", x.look(1), 60);
        Due.is("FLUSHED", x.look(2), 60);
        Due.is("not clean", x.look(5), 0);
        Due.is("running", x.look(6), 0);
        Due.is("rolling back", x.look(7), 0);
        Due.is("open checkpoint", x.look(8), 0);
        Due.is("NEEDED", x.look(9), 8);
        Due.is("lines", x.look(10), 4);
        Due.is("lines run", x.look(11), 3);
        Due.is("crashes", x.look(13), 1);
        Due.is("LOST", x.look(14), 512);
        Due.is("records", x.look(18), 7);
        Due.is("at(0, 0)", x.at(0, 0), 0);
        Due.is("at(16, 2)", x.at(16, 2), 0);
        Due.is("page(0, 2)", x.page(0, 2), -1);
        Due.is("page(9, 4)", x.page(9, 4), 1);
        Due.is("tx(2, 0)", x.tx(2, 0), 0);
        Due.is("tx(2, 3)", x.tx(2, 3), 0);
        Due.is("tx(2, 4)", x.tx(2, 4), 0);
        Due.is("tx(2, 6)", x.tx(2, 6), 0);
        Due.is("log(59)", x.log(59), 0);
        Due.is("log(60)", x.log(60), -1);
        Due.is("record(50, 0)", x.record(50, 0), 8);
        Due.is("record(56, 0)", x.record(56, 0), -1);
        Due.is("would(0, 0, 0)", x.would(0, 0, 0), 5);
        Due.is("would(0, 0, 16)", x.would(0, 0, 16), 0);
        Due.is("would(0, 0, 261)", x.would(0, 0, 261), 4);
        Due.is("victim()", x.victim(), -1);
        Due.is("asOf(0, 23)", x.asOf(0, 23), 5);
        Due.is("count(2)", x.count(2), 2);
        Due.is("fault(0)", x.fault(0), 0);
    }

    /** What tells no word of DOWN: the TAPE, a plan, THE IMAGE; SHIP "UP or DOWN" */
    private static void goesWhenDown() {
        AheadStore x = new AheadStore();
        down(x);
        Due.is("feed", x.feed(0x20202020, 0x20202020, 0x20202020, 0x20202020, 0x20202020), 20);
        Due.yes("end", x.end(1));
        Due.is("plan", x.plan(), 0);
        Due.is("ship", x.ship(999), 60);
        Due.is("DONE", x.look(16), 56);
        Due.is("stand(16, 0)", x.stand(16, 0), 6);
        Due.yes("image", x.image(true));
        Due.is("recover", x.recover(-1), 2);
        Due.yes("image", x.image(false));
        Due.is("DOWN again", x.look(0), 0);
    }

    /** "NONE if n can't be, or UP" */
    private static void recoveryWhenUp() {
        Consumer<AheadStore> up = x -> {
            x.act(1, 0);
            x.write(1, 0, 1);
        };
        for (int n : new int[] {-1, 0, 1, 99}) {
            Whole.none("recover(" + n + "), UP", up, x -> x.recover(n));
            Whole.none("recover(" + n + "), UP again", up.andThen(x -> {
                x.crash(9);
                x.recover(-1);
            }), x -> x.recover(n));
        }
    }

    /** "UP: at first"; "till recovery is through" */
    private static void upAtFirstAndAgain() {
        AheadStore x = new AheadStore();
        Due.is("UP", x.look(0), 1);
        down(x);
        Due.is("DOWN", x.look(0), 0);
        Due.is("recover(1)", x.recover(1), 1);
        Due.is("DOWN", x.look(0), 0);
        Due.is("recover(1)", x.recover(1), 1);
        Due.is("UP", x.look(0), 1);
        Due.yes("begin", x.act(2, 0));
        Due.is("the plan goes on", x.run(1), 1);
    }
}
