/** Promises 12 to 16: feed, end, plan, fault, run. */
public final class PlanTest {
    public static void main(String[] args) {
        tape();
        faults();
        manyLines();
        planStays();
        runs();
        allWords();
        Due.end("PlanTest");
    }

    private static void tape() {
        AheadStore x = new AheadStore();
        Due.yes("end(0)", x.end(0));
        Due.no("end(1)", x.end(1));
        Due.no("end(-1)", x.end(-1));
        for (int i = 1; i <= 20; i++) {
            Due.is("feed", x.feed(0x20202020, 0x20202020, 0x20202020, 0x20202020, 0x20202020), 20 * i);
        }
        Due.is("the 21st", x.feed(0, 0, 0, 0, 0), -1);
        Due.no("end(401)", x.end(401));
        Due.yes("end(400)", x.end(400));
        Due.yes("end(381)", x.end(381));
        Due.is("more than 400", x.feed(0, 0, 0, 0, 0), -1);
        Due.yes("end(380)", x.end(380));
        Due.is("just 400", x.feed(0x20202020, 0x0a0a0a0a, 0x20202020, 0x20202020, 0x20202020), 400);
        Due.is("blanks alone", x.plan(), 0);
        Due.is("the TAPE is empty", x.feed(-1, -1, -1, -1, -1), 20);
        Due.is("bytes of 255", x.plan(), -1);
        Due.is("fault(1)", x.fault(1), 0);
        Due.is("empty with a FAULT too", x.feed(0, 0, 0, 0, 0), 20);
        Due.yes("end(0)", x.end(0));
        Due.is("an empty plan", x.plan(), 0);
        Due.is("fault(0)", x.fault(0), 0);
        Due.is("fault(1)", x.fault(1), -1);
        Due.is("fault(2)", x.fault(2), -1);
        Due.is("fault(-1)", x.fault(-1), -1);
        AheadStore y = new AheadStore();
        y.feed(0x666c7573, 0x68203b00, 0, 0, 0);
        y.end(7);
        Due.is("the highest first", y.plan(), 1);
    }

    private static void fault(String text, int what, int place) {
        AheadStore x = new AheadStore();
        Due.is("plan of '" + text + "'", Due.plan(x, text), -1);
        Due.is("FAULT of '" + text + "'", x.fault(0), what);
        Due.is("place in '" + text + "'", x.fault(1), place);
    }

    private static void good(String text, int lines) {
        AheadStore x = new AheadStore();
        Due.is("plan of '" + text + "'", Due.plan(x, text), lines);
        Due.is("FAULT of '" + text + "'", x.fault(0), 0);
        Due.is("place in '" + text + "'", x.fault(1), -1);
        Due.is("look(10) of '" + text + "'", x.look(10), lines);
    }

    private static void faults() {
        good("1begin;1write 0 0;1add255 1;", 3);
        good("  9\nbegin\n;  ", 1);
        good("1 write 0255 0000;", 1);
        good("0001 write 255 255;", 1);
        good("1 back 0;1 back 7;1 roll 1;1 roll 9;page 0;page 15;", 6);
        fault("1 begin", 1, 7);
        fault("1 begin ", 1, 8);
        fault("1", 1, 1);
        fault(";", 1, 0);
        fault("flush;;", 1, 6);
        fault("begin;", 1, 0);
        fault("1 flush;", 1, 2);
        fault("1 page 1;", 1, 2);
        fault("Flush;", 1, 0);
        fault("flushh;", 1, 0);
        fault("flus;", 1, 0);
        for (char letter : new char[] {'a', 'z', 'A', 'Z'}) {
            fault("flush" + letter + ";", 1, 0);
        }
        for (char sign : new char[] {'@', '[', '`', '{', '/', ':', 0, 31, 127, 255}) {
            fault("flush" + sign + ";", 1, 5);
        }
        fault("1 write 1/ 1;", 1, 9);
        fault("1 write 1: 1;", 1, 9);
        good("9 roll 9;", 1);
        fault("flush check;", 1, 6);
        fault("flush 1;", 1, 6);
        fault("1 begin 1;", 1, 8);
        fault("1 write 1;", 1, 9);
        fault("1 write begin 1;", 1, 8);
        fault("1 write 1 2 3;", 1, 12);
        fault("1 write 00001 1;", 1, 8);
        fault("1 1 begin;", 1, 2);
        fault("1\tbegin;", 1, 1);
        fault("1 begin\r;", 1, 7);
        fault("1 begin!;", 1, 7);
        fault("1 begin;" + (char) 233, 1, 8);
        fault("0 begin;", 2, 0);
        fault("10 begin;", 2, 0);
        fault("9999 nothing", 2, 0);
        fault("10000 begin;", 1, 0);
        fault("1 write 256 0;", 2, 8);
        fault("1 write 0 256;", 2, 10);
        fault("1 add 256 1;", 2, 6);
        fault("1 add 0 0;", 2, 8);
        fault("1 add 0 256;", 2, 8);
        fault("1 back 8;", 2, 7);
        fault("1 roll 0;", 2, 7);
        fault("1 roll 10;", 2, 7);
        fault("page 16;", 2, 5);
        fault("flush; 0 begin; ?", 2, 7);
        fault("flush; ? 0 begin;", 1, 7);
        fault("1 write 256 ?;", 2, 8);
        fault("1 write ? 256;", 1, 8);
    }

    private static void manyLines() {
        String all = "";
        for (int i = 0; i < 24; i++) {
            all += "check;";
        }
        good(all, 24);
        good(all + "\n ", 24);
        fault(all + " over;", 3, 145);
        fault(all + "1", 3, 144);
        fault(all + "1?", 3, 144);
        fault(all + "1 begin", 3, 144);
        fault(all + "flush ?", 3, 144);
        fault(all + "0 begin;", 2, 144);
        fault(all + "begin;", 1, 144);
        fault(all + ";", 1, 144);
        fault(all.substring(6) + "check 1;", 1, 144);
    }

    private static void planStays() {
        AheadStore x = new AheadStore();
        Due.is("run without a plan", x.run(24), 0);
        Due.is("plan", Due.plan(x, "1 begin; 2 begin; 3 begin;"), 3);
        Due.is("run(2)", x.run(2), 2);
        Due.is("look(11)", x.look(11), 2);
        Due.is("a FAULT", Due.plan(x, "flush"), -1);
        Due.is("the plan stays", x.look(10), 3);
        Due.is("where it was", x.look(11), 2);
        Due.is("run(1)", x.run(1), 1);
        Due.is("look(6)", x.look(6), 14);
        Due.is("run(1) at its end", x.run(1), 0);
        Due.is("a new one", Due.plan(x, "4 begin;"), 1);
        Due.is("at its beginning", x.look(11), 0);
        Due.is("run(0)", x.run(0), -1);
        Due.is("run(25)", x.run(25), -1);
        Due.is("run(-1)", x.run(-1), -1);
        x.crash(0);
        Due.is("run, DOWN", x.run(1), -1);
        Due.is("plan, DOWN", Due.plan(x, "5 begin;;"), -1);
        Due.is("look(11)", x.look(11), 0);
        Due.is("plan, DOWN", Due.plan(x, "5 begin;6 begin;"), 2);
        x.recover(-1);
        Due.is("run(24)", x.run(24), 2);
    }

    private static void runs() {
        AheadStore x = new AheadStore();
        Due.plan(x, "1 begin; 2 begin; 1 write 5 6; 2 write 5 7; 2 add 5 1; 1 roll 1; 1 back 0; 7 commit; over; page 3;");
        Due.is("run(24)", x.run(24), 3);
        Due.is("what is refused counts as run", x.look(11), 10);
        Due.is("it WAITS, as if called", x.tx(2, 5), 2);
    }

    private static void allWords() {
        AheadStore x = new AheadStore();
        Due.is("plan", Due.plan(x, "1 begin; 1 save; 1 write 5 6; 1 add 5 1; 1 back 0; 1 open; 1 write 20 2; 1 close; "
            + "check; over; page 1; 2 begin; 2 commit; 1 add 0 1; 1 abort; 1 roll 9; 3 begin; flush;"), 18);
        Due.is("run(4)", x.run(4), 4);
        Due.is("at(5, 0)", x.at(5, 0), 7);
        Due.is("run(1)", x.run(1), 1);
        Due.is("at(5, 0)", x.at(5, 0), 0);
        Due.is("run(1)", x.run(1), 1);
        Due.is("TOPS", x.tx(1, 4), 1);
        Due.is("run(2)", x.run(2), 2);
        Due.is("TOPS", x.tx(1, 4), 0);
        Due.is("run(2)", x.run(2), 2);
        Due.is("MASTER", x.look(3), 70);
        Due.is("run(1)", x.run(1), 1);
        Due.is("at(20, 1)", x.at(20, 1), 2);
        Due.is("run(2)", x.run(2), 2);
        Due.is("a commit", x.count(5), 1);
        Due.is("run(3)", x.run(3), 3);
        Due.is("rolled back", x.tx(1, 0), 0);
        Due.is("run(2)", x.run(2), 2);
        Due.is("flushed whole", x.look(2), x.look(1));
    }
}
