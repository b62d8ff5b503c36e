import java.util.function.Consumer;
import java.util.function.Predicate;

/** The log that is FULL (term 2): END above 3500, what is refused then and what goes. */
public final class EdgeFullTest {
    public static void main(String[] args) {
        oneThatBeginsAt3500();
        refusedAbove3500();
        waitsStayWhenFull();
        plansWhenFull();
        abortAndRollGo();
        backGoes();
        openAndSaveGo();
        keepsGo();
        recoveryGoes();
        thoughtGoes();
        shipAndImageGo();
        commitOverTheEdge();
        notFullAnyMoreBehindACrash();
        Due.end("EdgeFullTest");
    }

    /** 1, 2 and 3 are running, 1 has a top action open and has written 0, 4 is rolling back; END is so. */
    private static Consumer<AheadStore> at(int end, boolean check) {
        return x -> {
            for (int t = 1; t <= 4; t++) {
                x.act(t, 0);
            }
            x.act(1, 3);
            x.write(1, 0, 1);
            x.write(4, 32, 7);
            x.act(4, 2);
            if (check) {
                x.keep(2, 0);
            }
            Whole.grow(x, 2, 250, end);
        };
    }

    private static void lies(String name, boolean check, Predicate<AheadStore> call, int kind) {
        AheadStore x = new AheadStore();
        at(3500, check).accept(x);
        Due.yes(name + " at 3500", call.test(x));
        Due.is(name + " at 3500: KIND", x.record(3500, 0), kind);
        Due.yes(name + " at 3500: FULL then", x.look(1) > 3500);
        Due.no(name + " at 3500: begin", x.act(9, 0));
    }

    /** "one that begins at 3500 may lie" */
    private static void oneThatBeginsAt3500() {
        lies("begin", false, x -> x.act(9, 0), 1);
        lies("write", false, x -> x.write(3, 100, 1), 2);
        lies("add", false, x -> x.add(3, 100, 1), 3);
        lies("commit", false, x -> x.act(3, 1), 5);
        lies("a checkpoint's beginning", false, x -> x.keep(2, 0), 8);
        lies("close", false, x -> x.act(1, 4), 9);
        lies("a checkpoint's end", true, x -> x.keep(3, 0), 10);
    }

    /** "FULL: END is above 3500 (then nothing is done that would write a record of KIND 1, 2, 3, 5, 8, 9, 10 ..)" */
    private static void refusedAbove3500() {
        Consumer<AheadStore> full = at(3501, false);
        Whole.refused("begin, FULL", full, x -> x.act(9, 0));
        Whole.refused("write, FULL", full, x -> x.write(3, 100, 1));
        Whole.refused("add, FULL", full, x -> x.add(3, 100, 1));
        Whole.refused("commit, FULL", full, x -> x.act(3, 1));
        Whole.refused("a checkpoint's beginning, FULL", full, x -> x.keep(2, 0));
        Whole.refused("close, FULL", full, x -> x.act(1, 4));
        Whole.refused("a checkpoint's end, FULL", at(3501, true), x -> x.keep(3, 0));
        AheadStore x = new AheadStore();
        at(3501, true).accept(x);
        x.keep(3, 0);
        Due.yes("it is open yet", x.look(8) > 0);
        Due.is("MASTER", x.look(3), 0);
    }

    /** "is refused for what others have written or added to alone .. (refused for anything else it stays)" */
    private static void waitsStayWhenFull() {
        Consumer<AheadStore> full = at(3501, false);
        Whole.refused("write that 1 is in the way of, FULL", full, x -> x.write(3, 0, 1));
        Whole.refused("add that 1 is in the way of, FULL", full, x -> x.add(3, 0, 1));
        AheadStore x = new AheadStore();
        at(3492, false).accept(x);
        x.write(3, 250, 1);
        Due.is("3 WAITS for 2", x.tx(3, 5), 4);
        x.write(1, 1, 1);
        Due.is("END", x.look(1), 3501);
        Due.no("write", x.write(3, 0, 1));
        Due.is("it stays", x.tx(3, 5), 4);
    }

    /** "(what is refused is passed over, and counts as run)" */
    private static void plansWhenFull() {
        AheadStore x = new AheadStore();
        at(3501, false).accept(x);
        Due.is("plan", Due.plan(x, "9 begin; 3 write 100 1; 3 add 100 1; 3 commit; check; over; 1 close; 3 open; 3 save; 3 abort; "
            + "3 roll 1; flush; page 15;"), 13);
        Due.is("run(7): none", x.run(7), 0);
        Due.is("counted as run", x.look(11), 7);
        Due.is("END", x.look(1), 3501);
        Due.is("run(6): all", x.run(6), 6);
        Due.is("END: 6 and 7", x.look(1), 3513);
    }

    /** "and all else goes": records 6, 4, 7 */
    private static void abortAndRollGo() {
        AheadStore x = new AheadStore();
        at(3501, false).accept(x);
        Due.yes("abort", x.act(1, 2));
        Due.is("record 6", x.record(3501, 0), 6);
        Due.is("roll", x.roll(1, 1), 1);
        Due.is("record 4", x.record(3507, 0), 4);
        Due.is("roll", x.roll(1, 1), 1);
        Due.is("record 7", x.record(3518, 0), 7);
        Due.is("roll of 4", x.roll(4, 20), 2);
        Due.is("END", x.look(1), 3524 + 17);
        Due.no("it can't begin anew", x.act(1, 0));
    }

    private static void backGoes() {
        AheadStore x = new AheadStore();
        x.act(1, 0);
        x.save(1);
        x.write(1, 0, 1);
        x.act(2, 0);
        Whole.grow(x, 2, 250, 3490);
        x.write(1, 1, 1);
        x.add(1, 2, 3);
        Due.is("END", x.look(1), 3507);
        Due.is("back", x.back(1, 0), 3);
        Due.is("END", x.look(1), 3540);
        Due.is("records 4 at its end", x.record(3529, 4), 8);
        Due.is("at(0, 0)", x.at(0, 0), 0);
        Due.is("at(2, 0)", x.at(2, 0), 0);
    }

    private static void openAndSaveGo() {
        AheadStore x = new AheadStore();
        at(3501, false).accept(x);
        Due.yes("open", x.act(3, 3));
        Due.is("save", x.save(3), 0);
        Due.is("TOPS", x.tx(3, 4), 1);
        Due.is("SAVEPOINTS", x.tx(3, 3), 1);
        Due.is("back, undoing none", x.back(3, 0), 0);
        Due.is("END", x.look(1), 3501);
    }

    private static void keepsGo() {
        AheadStore x = new AheadStore();
        at(3501, false).accept(x);
        Due.yes("a PAGE is written", x.keep(1, 0));
        Due.yes("the log is flushed through one", x.keep(0, 8));
        Due.yes("whole", x.keep(0, 0));
        Due.is("FLUSHED", x.look(2), 3501);
        Due.yes("dumped", x.keep(4, 0));
        Due.yes("lost", x.keep(5, 9));
        Due.yes("restored", x.keep(6, 9));
        Due.is("END", x.look(1), 3501);
    }

    private static void recoveryGoes() {
        AheadStore x = new AheadStore();
        at(3501, false).accept(x);
        int more = x.tx(2, 6);
        x.keep(0, 0);
        Due.yes("crash", x.crash(0));
        Due.is("recover(1)", x.recover(1), 1);
        Due.is("KIND 4", x.record(3501, 0), 4);
        Due.is("recover", x.recover(-1), more - 1 + 2 + 4);
        Due.is("END", x.look(1), 3501 + 11 * (more + 2) + 24);
        Due.is("at(0, 0)", x.at(0, 0), 0);
        Due.is("at(250, 0)", x.at(250, 0), 0);
        Due.no("begin", x.act(1, 0));
        Due.no("a checkpoint begins", x.keep(2, 0));
        Due.yes("crash", x.crash(0));
        Due.is("recover", x.recover(-1), 0);
    }

    private static void thoughtGoes() {
        Whole.unchanged("would(999, 1, 0), FULL", at(3501, true), x -> x.would(999, 1, 0), 0);
        AheadStore x = new AheadStore();
        at(3501, false).accept(x);
        x.keep(0, 0);
        int four = x.would(0, 0, 256);
        Due.is("records 4", four, x.tx(1, 6) + x.tx(2, 6) + x.tx(4, 6));
        Due.is("END", x.would(0, 0, 260), 3501 + 11 * four + 24);
        Due.is("END is as it was", x.look(1), 3501);
    }

    private static void shipAndImageGo() {
        AheadStore x = new AheadStore();
        at(3501, false).accept(x);
        x.keep(0, 0);
        Due.is("ship", x.ship(999), 1007);
        x.ship(999);
        x.ship(999);
        Due.is("ship", x.ship(999), 3501);
        Due.is("DONE", x.look(16), 3501);
        Due.yes("image", x.image(true));
        x.act(1, 2);
        Due.yes("image", x.image(false));
        Due.is("END", x.look(1), 3501);
    }

    /** COMMIT at 3500: its record 5 lies, and record 7 behind it is one of "all else" */
    private static void commitOverTheEdge() {
        AheadStore x = new AheadStore();
        at(3500, false).accept(x);
        Due.yes("commit", x.act(3, 1));
        Due.is("5", x.record(3500, 0), 5);
        Due.is("7", x.record(3506, 0), 7);
        Due.is("END", x.look(1), 3512);
        Due.is("FLUSHED", x.look(2), 3506);
        Due.is("it is gone", x.tx(3, 0), 0);
    }

    /** END is what counts: a CRASH that leaves less makes it FULL no more. */
    private static void notFullAnyMoreBehindACrash() {
        AheadStore x = new AheadStore();
        at(3501, false).accept(x);
        x.keep(0, 8);
        Due.no("begin, FULL", x.act(9, 0));
        x.crash(0);
        x.recover(-1);
        Due.is("END", x.look(1), 20);
        Due.yes("begin", x.act(9, 0));
    }
}
