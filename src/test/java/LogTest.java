/** Promises 20, 21, 27: log, record, count; every KIND byte by byte, and the log that is FULL. */
public final class LogTest {
    public static void main(String[] args) {
        bytes();
        checkpointBytes();
        records();
        tornRecords();
        full();
        Due.end("LogTest");
    }

    private static void row(AheadStore x, int s, int... bytes) {
        int sum = 90;
        for (int i = 0; i < bytes.length; i++) {
            Due.is("byte " + i + " of the record at " + s, x.log(s + i), bytes[i]);
            sum += bytes[i];
        }
        Due.is("CHECK of the record at " + s, x.log(s + bytes.length), sum % 256);
        Due.is("LENGTH of the record at " + s, x.log(s + 1), bytes.length + 1);
    }

    private static void bytes() {
        AheadStore x = new AheadStore();
        for (int i : new int[] {-1, 0, 7, 8, Integer.MIN_VALUE, Integer.MAX_VALUE}) {
            Due.is("log(" + i + ")", x.log(i), -1);
        }
        x.act(7, 0);
        row(x, 8, 1, 6, 7, 0, 0);
        x.write(7, 200, 150);
        row(x, 14, 2, 9, 7, 0, 8, 200, 0, 150);
        x.add(7, 200, 120);
        row(x, 23, 3, 8, 7, 0, 14, 200, 120);
        x.save(7);
        x.write(7, 200, 9);
        row(x, 31, 2, 9, 7, 0, 23, 200, 14, 9);
        x.back(7, 0);
        row(x, 40, 4, 11, 7, 0, 31, 200, 0, 14, 0, 23);
        x.act(7, 3);
        x.act(7, 4);
        row(x, 51, 9, 8, 7, 0, 40, 0, 40);
        x.act(7, 2);
        row(x, 59, 6, 6, 7, 0, 51);
        x.roll(7, 1);
        row(x, 65, 4, 11, 7, 0, 59, 200, 1, 136, 0, 14);
        x.roll(7, 2);
        row(x, 76, 4, 11, 7, 0, 65, 200, 0, 0, 0, 8);
        row(x, 87, 7, 6, 7, 0, 76);
        x.act(8, 0);
        x.act(8, 1);
        row(x, 93, 1, 6, 8, 0, 0);
        row(x, 99, 5, 6, 8, 0, 93);
        row(x, 105, 7, 6, 8, 0, 99);
        Due.is("log(END)", x.log(111), -1);
        x.act(1, 0);
        for (int i = 0; i < 20; i++) {
            x.write(1, 0, i);
        }
        Due.is("PREV above 255", x.record(288, 3), 279);
        Due.is("its higher byte", x.log(288 + 3), 1);
        Due.is("its lower byte", x.log(288 + 4), 23);
    }

    private static void checkpointBytes() {
        AheadStore x = new AheadStore();
        x.act(5, 0);
        x.act(2, 0);
        x.write(5, 33, 1);
        x.write(2, 1, 1);
        x.act(2, 2);
        x.add(5, 65, 1);
        x.keep(1, 4);
        Due.yes("begins", x.keep(2, 0));
        row(x, 52, 8, 6, 0, 0, 0);
        Due.yes("ends", x.keep(3, 0));
        row(x, 58, 10, 22, 0, 0, 0, 2, 2, 2, 0, 38, 5, 1, 0, 44, 2, 0, 0, 29, 2, 0, 20);
        Due.is("WHO", x.record(58, 2), 0);
        Due.is("PREV", x.record(58, 3), 0);
    }

    private static void records() {
        AheadStore x = new AheadStore();
        x.act(1, 0);
        x.write(1, 77, 5);
        x.add(1, 78, 5);
        x.keep(0, 14);
        int[][] want = {{1, 6, 1, 0, -1, -1, 1}, {2, 9, 1, 8, -1, 77, 1}, {3, 8, 1, 14, -1, 78, 0}};
        int[] stamps = {8, 14, 23};
        for (int i = 0; i < 3; i++) {
            for (int what = 0; what < 7; what++) {
                Due.is("record(" + stamps[i] + ", " + what + ")", x.record(stamps[i], what), want[i][what]);
            }
            Due.is("record(" + stamps[i] + ", 7)", x.record(stamps[i], 7), -1);
            Due.is("record(" + stamps[i] + ", -1)", x.record(stamps[i], -1), -1);
        }
        for (int s : new int[] {-8, 0, 7, 9, 13, 22, 31, 32, Integer.MAX_VALUE, Integer.MIN_VALUE}) {
            Due.is("record(" + s + ", 0)", x.record(s, 0), -1);
        }
        Due.is("count(2)", x.count(2), 1);
        Due.is("count(0)", x.count(0), -1);
        Due.is("count(11)", x.count(11), -1);
        Due.is("count(-1)", x.count(-1), -1);
        Due.is("look(18)", x.look(18), 3);
    }

    private static void tornRecords() {
        AheadStore x = new AheadStore();
        x.act(1, 0);
        x.write(1, 77, 5);
        x.write(1, 78, 5);
        x.crash(22);
        Due.is("END", x.look(1), 30);
        Due.is("two bytes of the torn one are there", x.log(24), 9);
        Due.is("its last", x.log(29), 0);
        Due.is("none behind", x.log(30), -1);
        Due.is("record(14, 0), DOWN", x.record(14, 0), 2);
        Due.is("record(14, 6), DOWN", x.record(14, 6), 1);
        Due.is("record(23, 0)", x.record(23, 0), -1);
        Due.is("count(2)", x.count(2), 1);
        Due.is("look(18)", x.look(18), 2);
        x.recover(0);
        Due.is("END is where the torn one would begin", x.look(1), 23);
        Due.is("log(23)", x.log(23), -1);
    }

    private static void full() {
        AheadStore x = new AheadStore();
        x.act(1, 0);
        x.act(2, 0);
        x.act(4, 0);
        x.act(2, 3);
        x.add(2, 0, 1);
        x.keep(2, 0);
        x.act(3, 0);
        x.act(3, 1);
        x.act(5, 0);
        x.act(5, 1);
        // END is 8 + 18 + 8 + 6 + 36 = 76; 428 adds of 8 end at 3500
        for (int i = 0; i < 428; i++) {
            Due.yes("add", x.add(1, 16, 1));
        }
        Due.is("END", x.look(1), 3500);
        Due.yes("one that begins at 3500", x.write(1, 17, 1));
        Due.is("END", x.look(1), 3509);
        Due.no("begin", x.act(3, 0));
        Due.no("write", x.write(1, 17, 1));
        Due.no("add", x.add(1, 17, 1));
        Due.no("write that others are in the way of", x.write(4, 0, 1));
        Due.is("it does not WAIT", x.tx(4, 5), 0);
        Due.no("commit", x.act(4, 1));
        Due.no("close", x.act(2, 4));
        Due.no("checkpoint ends", x.keep(3, 0));
        Due.yes("open goes", x.act(4, 3));
        Due.is("save goes", x.save(4), 0);
        Due.is("END", x.look(1), 3509);
        Due.yes("abort goes", x.act(1, 2));
        Due.is("roll goes", x.roll(1, 20), 20);
        for (int i = 0; i < 20; i++) {
            x.roll(1, 20);
        }
        Due.yes("flush goes", x.keep(0, 0));
        Due.is("would: all is compensated", x.would(999, 0, 256), 10);
        x.crash(999);
        Due.is("recover: 9 of 1, one of 2, three ends", x.recover(-1), 13);
        Due.is("at(16, 0)", x.at(16, 0), 0);
        Due.is("END", x.look(1), 3509 + 6 + 430 * 11 + 18);
        Due.is("records 4", x.count(4), 430);
        Due.no("begin", x.act(3, 0));
        Due.no("checkpoint begins", x.keep(2, 0));
    }
}
