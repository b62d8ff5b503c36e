import java.util.function.Consumer;

/** The edges of PLANS (term 6) and of promises 12 to 16. */
public final class EdgePlanTest {
    private static final int BLANKS = 0x20202020;

    public static void main(String[] args) {
        feedTooMuch();
        feedAllBytes();
        endOutside();
        endThenFeed();
        emptyTexts();
        tapeIsEmptyThen();
        planStaysWithAFault();
        planAtItsBeginning();
        transactionNumbers();
        addressNumbers();
        byteNumbers();
        savepointNumbers();
        stepNumbers();
        pageNumbers();
        digitsOfNumbers();
        lettersOfWords();
        blanks();
        theEnd();
        whatCantStandThere();
        firstByItsPlace();
        twentyFourLines();
        twentyFifthLine();
        longestText();
        faultWrongInputs();
        faultOfTheLatest();
        runTooFewOrTooMany();
        runBeyondTheEnd();
        runAsIfCalled();
        Due.end("EdgePlanTest");
    }

    private static void good(String text, int lines) {
        AheadStore x = new AheadStore();
        Due.is("plan of '" + text + "'", Due.plan(x, text), lines);
        Due.is("FAULT of '" + text + "'", x.fault(0), 0);
        Due.is("place in '" + text + "'", x.fault(1), -1);
        Due.is("lines of '" + text + "'", x.look(10), lines);
    }

    private static void bad(String text, int what, int place) {
        AheadStore x = new AheadStore();
        Due.is("plan of '" + text + "'", Due.plan(x, text), -1);
        Due.is("FAULT of '" + text + "'", x.fault(0), what);
        Due.is("place in '" + text + "'", x.fault(1), place);
        Due.is("lines of '" + text + "'", x.look(10), 0);
    }

    private static int feedBlanks(AheadStore x) {
        return x.feed(BLANKS, BLANKS, BLANKS, BLANKS, BLANKS);
    }

    /** "NONE, and nothing comes, if there would be more than 400" */
    private static void feedTooMuch() {
        Consumer<AheadStore> most = x -> {
            for (int i = 0; i < 19; i++) {
                feedBlanks(x);
            }
            x.feed(0x66, 0x6c757368, 0x3b202020, BLANKS, BLANKS);
        };
        Whole.none("feed to 420", most, x -> x.feed(1, 2, 3, 4, 5));
        for (int size : new int[] {399, 390, 381}) {
            Whole.none("feed to " + (size + 20), most.andThen(x -> x.end(size)), x -> x.feed(1, 2, 3, 4, 5));
        }
        AheadStore x = new AheadStore();
        most.accept(x);
        Due.yes("end(380)", x.end(380));
        Due.is("feed to 400", feedBlanks(x), 400);
        Due.is("nothing of the refused ones has come", x.plan(), 0);
    }

    /** "Twenty bytes come behind the TAPE, of each number the highest first" */
    private static void feedAllBytes() {
        AheadStore x = new AheadStore();
        Due.is("feed", x.feed(0x666c7573, 0x683b7061, 0x67652031, 0x353b6f76, 0x65723b20), 20);
        Due.is("flush;page 15;over; ", x.plan(), 3);
        AheadStore y = new AheadStore();
        Due.is("feed", y.feed(0x20202020, 0x20202020, 0x202020ff, -1, -1), 20);
        Due.is("a byte 255", y.plan(), -1);
        Due.is("its place", y.fault(1), 11);
        AheadStore z = new AheadStore();
        z.feed(0x80202020, BLANKS, BLANKS, BLANKS, BLANKS);
        Due.is("the highest byte of a number below 0", z.plan(), -1);
        Due.is("its place", z.fault(1), 0);
        AheadStore w = new AheadStore();
        w.feed(BLANKS, BLANKS, BLANKS, BLANKS, 0x20202000);
        Due.is("a byte 0", w.plan(), -1);
        Due.is("its place", w.fault(1), 19);
    }

    /** "false, changing nothing, if it has not so many, or n is below 0" */
    private static void endOutside() {
        Consumer<AheadStore> made = x -> {
            x.feed(0x666c7573, 0x683b2020, BLANKS, BLANKS, BLANKS);
            x.end(13);
        };
        for (int n : new int[] {-1, 14, 20, 400, 401, Integer.MIN_VALUE, Integer.MAX_VALUE}) {
            Whole.refused("end(" + n + ")", made, x -> x.end(n));
        }
        Whole.refused("end(1) of an empty TAPE", x -> { }, x -> x.end(1));
        Whole.unchanged("end(13) of 13", made, x -> Whole.flag(x.end(13)), 1);
        Whole.unchanged("end(0) of an empty TAPE", x -> { }, x -> Whole.flag(x.end(0)), 1);
    }

    /** What was cut off is gone: the next bytes come behind the first n. */
    private static void endThenFeed() {
        AheadStore x = new AheadStore();
        x.feed(0x666c7573, 0x683b3f3f, 0x3f3f3f3f, 0x3f3f3f3f, 0x3f3f3f3f);
        x.end(6);
        Due.is("feed", x.feed(0x6f766572, 0x3b202020, BLANKS, BLANKS, BLANKS), 26);
        Due.is("flush;over;", x.plan(), 2);
        AheadStore y = new AheadStore();
        y.feed(0x3f3f3f3f, 0x3f3f3f3f, 0x3f3f3f3f, 0x3f3f3f3f, 0x3f3f3f3f);
        Due.yes("end(0)", y.end(0));
        Due.is("plan", y.plan(), 0);
    }

    /** No line at all is a plan of none. */
    private static void emptyTexts() {
        good("", 0);
        good(" ", 0);
        good("\n", 0);
        good(" \n \n\n ", 0);
    }

    /** "The TAPE, empty then (with a FAULT too)" */
    private static void tapeIsEmptyThen() {
        AheadStore x = new AheadStore();
        Due.plan(x, "flush;");
        Due.is("feed", feedBlanks(x), 20);
        x.plan();
        Due.plan(x, "flush");
        Due.no("end(1)", x.end(1));
        Due.is("feed", feedBlanks(x), 20);
    }

    /** "NONE: a FAULT (the plan stays as it was)" */
    private static void planStaysWithAFault() {
        Consumer<AheadStore> made = x -> {
            Due.plan(x, "1 begin; 2 begin; 3 begin;");
            x.run(1);
            Due.plan(x, "?");
            Due.feed(x, "4 begin; 5 begin; 0 begin;");
        };
        AheadStore x = new AheadStore();
        made.accept(x);
        Due.is("plan", x.plan(), -1);
        Due.is("lines", x.look(10), 3);
        Due.is("lines run", x.look(11), 1);
        Due.is("run", x.run(24), 2);
        Due.is("running", x.look(6), 14);
    }

    /** "is the plan, at its beginning": the same text again, too; an empty one, too */
    private static void planAtItsBeginning() {
        AheadStore x = new AheadStore();
        Due.plan(x, "flush;flush;");
        x.run(2);
        Due.plan(x, "flush;flush;");
        Due.is("lines run", x.look(11), 0);
        Due.is("run", x.run(1), 1);
        Due.is("an empty one", x.plan(), 0);
        Due.is("lines", x.look(10), 0);
        Due.is("lines run", x.look(11), 0);
        Due.is("run", x.run(24), 0);
    }

    /** "t 1 .. 9" */
    private static void transactionNumbers() {
        for (String word : new String[] {"begin", "save", "open", "close", "commit", "abort"}) {
            good("1 " + word + ";", 1);
            good("9 " + word + ";", 1);
            bad("0 " + word + ";", 2, 0);
            bad("10 " + word + ";", 2, 0);
            bad(word + ";", 1, 0);
        }
        for (String rest : new String[] {"write 0 0;", "add 0 1;", "back 0;", "roll 1;"}) {
            good("1 " + rest, 1);
            good("9 " + rest, 1);
            bad("0 " + rest, 2, 0);
            bad("10 " + rest, 2, 0);
            bad(rest, 1, 0);
        }
        for (String rest : new String[] {"flush;", "page 0;", "check;", "over;"}) {
            good(rest, 1);
            bad("1 " + rest, 1, 2);
            bad("0 " + rest, 2, 0);
        }
    }

    /** "A 0 .. 255" */
    private static void addressNumbers() {
        for (String word : new String[] {"write", "add"}) {
            int place = 3 + word.length();
            good("1 " + word + " 0 1;", 1);
            good("1 " + word + " 255 1;", 1);
            bad("1 " + word + " 256 1;", 2, place);
            bad("1 " + word + " 9999 1;", 2, place);
        }
    }

    /** "V 0 .. 255 (add: 1 .. 255)" */
    private static void byteNumbers() {
        good("1 write 0 0;", 1);
        good("1 write 0 255;", 1);
        bad("1 write 0 256;", 2, 10);
        good("1 add 0 1;", 1);
        good("1 add 0 255;", 1);
        bad("1 add 0 0;", 2, 8);
        bad("1 add 0 0000;", 2, 8);
        bad("1 add 0 256;", 2, 8);
    }

    /** "N 0 .. 7 (back: a savepoint)" */
    private static void savepointNumbers() {
        good("1 back 0;", 1);
        good("1 back 7;", 1);
        bad("1 back 8;", 2, 7);
        bad("1 back;", 1, 6);
    }

    /** "1 .. 9 (roll: steps)" */
    private static void stepNumbers() {
        good("1 roll 1;", 1);
        good("1 roll 9;", 1);
        bad("1 roll 0;", 2, 7);
        bad("1 roll 10;", 2, 7);
        bad("1 roll;", 1, 6);
    }

    /** "0 .. 15 (page: ..)" */
    private static void pageNumbers() {
        good("page 0;", 1);
        good("page 15;", 1);
        bad("page 16;", 2, 5);
        bad("page;", 1, 4);
    }

    /** "digits as many as stand together NUMBERS of 1 to 4 digits or none" */
    private static void digitsOfNumbers() {
        good("0001 write 0000 0000;", 1);
        good("1 write 00 255;", 1);
        bad("00001 begin;", 1, 0);
        bad("1 write 00000 0;", 1, 8);
        bad("1 write 0 00001;", 1, 10);
        bad("1 write 99999999999999999999 0;", 1, 8);
        bad("1 write 4294967296 0;", 1, 8);
        bad("1 write 00;", 1, 10);
        bad("1 write 12 3 4;", 1, 13);
        bad("12 3 begin;", 2, 0);
        bad("1 -1 begin;", 1, 2);
        bad("1 write -1 0;", 1, 8);
        bad("1 write +1 0;", 1, 8);
    }

    /** "letters (a .. z, A .. Z) as many as stand together are those words or none" */
    private static void lettersOfWords() {
        good("1begin;flush;page0;1roll1;1write0 0;1add255 255;", 6);
        for (char letter : new char[] {'a', 'z', 'A', 'Z'}) {
            bad("flush" + letter + ";", 1, 0);
            bad(letter + "flush;", 1, 0);
            bad("1 " + letter, 1, 2);
            bad("1 roll 1" + letter + ";", 1, 8);
        }
        bad("flushover;", 1, 0);
        bad("1 beginn;", 1, 2);
        bad("1 begi;", 1, 2);
        bad("1 Begin;", 1, 2);
        bad("1 BEGIN;", 1, 2);
        bad("1 beGin;", 1, 2);
        bad("FLUSH;", 1, 0);
        bad("a;", 1, 0);
        bad("Z;", 1, 0);
        bad("1 be gin;", 1, 2);
        bad("1 t;", 1, 2);
        bad("1 write A V;", 1, 8);
        bad("fl1ush;", 1, 0);
        bad("flush1;", 1, 5);
        bad("1 write0x1 0;", 1, 8);
    }

    /** "; and blanks (32, 10)": no other sign is a blank */
    private static void blanks() {
        good(" 1 \n begin \n ; \n 2\nbegin\n;\n", 2);
        for (char sign : new char[] {0, 9, 11, 12, 13, 31, 33, 44, 46, 59 + 1, 95, 127, 128, 133, 160, 255}) {
            bad(sign + "flush;", 1, 0);
            bad("flush" + sign + ";", 1, 5);
            bad("flush;" + sign, 1, 6);
            bad("1" + sign + "begin;", 1, 1);
        }
        for (char sign : new char[] {'@', '[', '`', '{', '/', ':'}) {
            bad("1 begin" + sign, 1, 7);
            bad("1 roll 1" + sign, 1, 8);
        }
    }

    /** "1 what can't stand there (the end: the text's length)" */
    private static void theEnd() {
        bad("1", 1, 1);
        bad("1 begin", 1, 7);
        bad("1 write", 1, 7);
        bad("1 write 0", 1, 9);
        bad("1 write 0 0", 1, 11);
        bad("flush", 1, 5);
        bad("page", 1, 4);
        bad("page 1", 1, 6);
        bad("flush;1 begin  \n ", 1, 17);
        bad("1 \n", 1, 3);
    }

    private static void whatCantStandThere() {
        bad(";", 1, 0);
        bad("flush;;", 1, 6);
        bad("flush; ;flush;", 1, 7);
        bad("1;", 1, 1);
        bad("1 2;", 1, 2);
        bad("1 begin begin;", 1, 8);
        bad("1 begin 2 begin;", 1, 8);
        bad("flush flush;", 1, 6);
        bad("flush over;", 1, 6);
        bad("1 write;", 1, 7);
        bad("1 write 0;", 1, 9);
        bad("1 write 0 0 0;", 1, 12);
        bad("1 write 0 begin;", 1, 10);
        bad("check 1;", 1, 6);
        bad("over 1;", 1, 5);
        bad("1 save 0;", 1, 7);
        bad("1 open 1;", 1, 7);
    }

    /** "FAULTS, the first by its place" */
    private static void firstByItsPlace() {
        bad("0 nothing ?", 2, 0);
        bad("1 write 256", 2, 8);
        bad("1 write 256 256;", 2, 8);
        bad("1 write 0 256", 2, 10);
        bad("1 back 8 8;", 2, 7);
        bad("? 0 begin;", 1, 0);
        bad("flush; ?; 0 begin;", 1, 7);
        bad("flush; 0 begin; ?;", 2, 7);
        bad("1 begin 0;", 1, 8);
        bad("1 page 99;", 1, 2);
    }

    private static String lines(int many) {
        StringBuilder b = new StringBuilder();
        for (int i = 0; i < many; i++) {
            b.append("flush;");
        }
        return b.toString();
    }

    /** "up to 24 lines" */
    private static void twentyFourLines() {
        good(lines(1), 1);
        good(lines(23), 23);
        good(lines(24), 24);
        good(lines(24) + " \n", 24);
        bad(lines(23) + "flush", 1, 143);
        bad(lines(23) + "page 16;", 2, 143);
    }

    /** "3 (at its first token) the 25th line"; "at one place the least" */
    private static void twentyFifthLine() {
        bad(lines(25), 3, 144);
        bad(lines(40), 3, 144);
        bad(lines(24) + " \n flush;", 3, 147);
        bad(lines(24) + "1 begin;", 3, 144);
        bad(lines(24) + "9", 3, 144);
        bad(lines(24) + "page 16;", 3, 144);
        bad(lines(24) + "page ?", 3, 144);
        bad(lines(24) + "1 flush;", 3, 144);
        bad(lines(24) + "0 begin;", 2, 144);
        bad(lines(24) + "10 begin;", 2, 144);
        bad(lines(24) + "00001 begin;", 1, 144);
        bad(lines(24) + "?", 1, 144);
        bad(lines(24) + "begin;", 1, 144);
        bad(lines(24) + ";", 1, 144);
        bad(lines(24) + "flushh;", 1, 144);
    }

    /** 400 bytes, to the last one. */
    private static void longestText() {
        StringBuilder b = new StringBuilder();
        for (int i = 0; i < 24; i++) {
            b.append("9 write 255 255;");
        }
        b.append(" ".repeat(15)).append('\n');
        Due.is("its length", b.length(), 400);
        good(b.toString(), 24);
        b.setCharAt(399, '?');
        bad(b.toString(), 1, 399);
        b.setCharAt(399, '1');
        bad(b.toString(), 3, 399);
        bad(" ".repeat(394) + "1flush", 1, 395);
        bad(" ".repeat(395) + "flush", 1, 400);
        good(" ".repeat(394) + "flush;", 1);
        bad(" ".repeat(396) + "0001", 1, 400);
        bad(" ".repeat(395) + "00001", 1, 395);
    }

    /** "NONE for another what" */
    private static void faultWrongInputs() {
        Consumer<AheadStore> made = x -> Due.plan(x, " 0 begin;");
        for (int what : new int[] {-1, 2, Integer.MIN_VALUE, Integer.MAX_VALUE}) {
            Whole.none("fault(" + what + ")", made, x -> x.fault(what));
            Whole.none("fault(" + what + ") without one", x -> { }, x -> x.fault(what));
        }
    }

    /** "Of the latest plan() what 0 the FAULT (0 without one), 1 its place (NONE)" */
    private static void faultOfTheLatest() {
        AheadStore x = new AheadStore();
        Due.is("before any", x.fault(0), 0);
        Due.is("before any", x.fault(1), -1);
        Due.plan(x, " 0 begin;");
        Due.is("FAULT", x.fault(0), 2);
        Due.is("place", x.fault(1), 1);
        feedBlanks(x);
        Due.is("it stays", x.fault(0), 2);
        x.run(1);
        x.crash(0);
        x.recover(-1);
        Due.is("it stays", x.fault(1), 1);
        Due.is("plan", x.plan(), 0);
        Due.is("none", x.fault(0), 0);
        Due.is("none", x.fault(1), -1);
    }

    /** "RUN n lines (1 .. 24): .. NONE if n can't be, or DOWN" */
    private static void runTooFewOrTooMany() {
        Consumer<AheadStore> made = x -> Due.plan(x, "1 begin;2 begin;");
        for (int n : new int[] {0, 25, -1, Integer.MIN_VALUE, Integer.MAX_VALUE}) {
            Whole.none("run(" + n + ")", made, x -> x.run(n));
            Whole.none("run(" + n + ") without a plan", x -> { }, x -> x.run(n));
        }
    }

    /** "the plan is at its end: fewer" */
    private static void runBeyondTheEnd() {
        Whole.unchanged("run(1) without a plan", x -> { }, x -> x.run(1), 0);
        Whole.unchanged("run(24) without a plan", x -> { }, x -> x.run(24), 0);
        AheadStore x = new AheadStore();
        Due.plan(x, lines(24));
        Due.is("run(23)", x.run(23), 23);
        Due.is("run(24)", x.run(24), 1);
        Due.is("lines run", x.look(11), 24);
        Due.is("run(1)", x.run(1), 0);
        Due.is("lines run", x.look(11), 24);
        AheadStore y = new AheadStore();
        Due.plan(y, lines(24));
        Due.is("run(24)", y.run(24), 24);
    }

    /** "one by one as if called (what is refused is passed over, and counts as run)" */
    private static void runAsIfCalled() {
        Consumer<AheadStore> called = x -> {
            x.act(1, 0);
            x.write(1, 255, 255);
            x.save(1);
            x.add(1, 0, 255);
            x.back(1, 0);
            x.act(1, 3);
            x.add(1, 16, 1);
            x.act(1, 4);
            x.keep(2, 0);
            x.keep(3, 0);
            x.keep(1, 15);
            x.act(2, 0);
            x.write(2, 255, 1);
            x.act(2, 2);
            x.roll(2, 9);
            x.act(3, 0);
            x.act(3, 1);
            x.keep(0, 0);
        };
        Consumer<AheadStore> run = x -> {
            Due.plan(x, "1 begin;1 write 255 255;1 save;1 add 0 255;1 back 0;1 open;1 add 16 1;1 close;check;over;page 15;"
                + "2 begin;2 write 255 1;2 abort;2 roll 9;3 begin;3 commit;flush;");
            x.run(24);
            // no plan, as the other one has none
            x.plan();
        };
        Whole.same("a plan as the calls", called, run);
        String[] refused = {"2 begin", "3 write 0 1", "3 add 0 1", "3 save", "2 back 0", "3 open", "2 close", "3 commit",
            "3 abort", "2 roll 1", "page 15", "over"};
        for (String line : refused) {
            AheadStore x = new AheadStore();
            Due.plan(x, "2 begin;" + line + ";flush;");
            Due.is("run of " + line, x.run(3), 2);
            Due.is("lines run", x.look(11), 3);
            Due.is("END", x.look(1), 14);
        }
        AheadStore x = new AheadStore();
        Due.plan(x, "check;check;");
        Due.is("check twice", x.run(2), 1);
    }
}
