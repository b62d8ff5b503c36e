import java.util.ArrayList;
import java.util.HashSet;
import java.util.List;
import java.util.Map;
import java.util.Set;
import java.util.TreeMap;
import java.util.TreeSet;
import java.util.regex.Matcher;
import java.util.regex.Pattern;

/**
 * The document once more, for RandomTest to hold the class against: records are objects, what a transaction
 * would undo is a stack and no chain of PREV and NEXT, frames are maps. Slow, and in the tests alone.
 */
final class Model {
    record Rec(int stamp, int kind, int who, int prev, int address, int was, int is, int how, int next, int[] bytes) {
        int past() { return stamp + bytes.length; }
        boolean touches() { return kind >= 2 && kind <= 4; }
    }

    static final class Frame {
        int page, stamp, rec, used;
        int[] bytes;
        Frame copy() {
            Frame f = new Frame();
            f.page = page; f.stamp = stamp; f.rec = rec; f.used = used; f.bytes = bytes.clone();
            return f;
        }
    }

    static final class Tx {
        int is = 1, last, cursor;
        boolean committed;
        List<Rec> undo = new ArrayList<>();
        List<Integer> saves = new ArrayList<>();
        List<Integer> tops = new ArrayList<>();
        Set<Integer> wrote = new TreeSet<>();
        Set<Integer> added = new TreeSet<>();
        Set<Integer> waits = new TreeSet<>();
        Tx copy() {
            Tx t = new Tx();
            t.is = is; t.last = last; t.cursor = cursor; t.committed = committed;
            t.undo.addAll(undo); t.saves.addAll(saves); t.tops.addAll(tops);
            t.wrote.addAll(wrote); t.added.addAll(added); t.waits.addAll(waits);
            return t;
        }
        /** What a record of its own leaves of what is yet to undo. */
        void learn(Rec r) {
            last = r.stamp;
            if (r.kind == 2 || r.kind == 3) undo.add(r);
            if (r.kind == 4 || r.kind == 9) undo.removeIf(u -> u.stamp > r.next);
            if (r.kind == 5) committed = true;
            if (r.kind == 6) is = 2;
        }
    }

    List<Rec> recs = new ArrayList<>();
    List<Integer> torn = new ArrayList<>();
    int flushed = 8, master, openCheck, redone, crashes, clock, frameCount = 4;
    boolean up = true;
    int[][] disk = new int[16][16], archive = new int[16][16];
    int[] diskStamp = new int[16], archiveStamp = new int[16];
    Set<Integer> lost = new TreeSet<>();
    Frame[] frames = new Frame[8];
    Map<Integer, Tx> txs = new TreeMap<>();
    int[] standRow = new int[256], standStamp = new int[16];
    int received = 8, done = 8;
    List<int[]> plan = new ArrayList<>();
    int ran;
    // not of the image
    StringBuilder tape = new StringBuilder();
    int fault, faultPlace = -1;
    Model image;
    // of the latest recoveries
    int wroteFour, wroteSeven, losers;

    Model copy() {
        Model m = new Model();
        m.take(this);
        return m;
    }

    void take(Model o) {
        recs = new ArrayList<>(o.recs); torn = new ArrayList<>(o.torn);
        flushed = o.flushed; master = o.master; openCheck = o.openCheck; redone = o.redone; crashes = o.crashes;
        clock = o.clock; frameCount = o.frameCount; up = o.up;
        for (int p = 0; p < 16; p++) { disk[p] = o.disk[p].clone(); archive[p] = o.archive[p].clone(); }
        diskStamp = o.diskStamp.clone(); archiveStamp = o.archiveStamp.clone();
        lost = new TreeSet<>(o.lost);
        for (int f = 0; f < 8; f++) frames[f] = o.frames[f] == null ? null : o.frames[f].copy();
        txs = new TreeMap<>();
        for (Map.Entry<Integer, Tx> e : o.txs.entrySet()) txs.put(e.getKey(), e.getValue().copy());
        standRow = o.standRow.clone(); standStamp = o.standStamp.clone();
        received = o.received; done = o.done;
        plan = new ArrayList<>(o.plan); ran = o.ran;
    }

    int wholeEnd() { return recs.isEmpty() ? 8 : recs.get(recs.size() - 1).past(); }
    int end() { return wholeEnd() + torn.size(); }
    boolean full() { return end() > 3500; }
    Rec find(int s) {
        for (Rec r : recs) if (r.stamp == s) return r;
        return null;
    }

    Rec put(int t, int kind, int address, int was, int is, int how, int next, int... more) {
        int prev = txs.containsKey(t) ? txs.get(t).last : 0;
        List<Integer> b = new ArrayList<>(List.of(kind, 0, t, prev >> 8, prev & 255));
        switch (kind) {
            case 2 -> b.addAll(List.of(address, was, is));
            case 3 -> b.addAll(List.of(address, is));
            case 4 -> b.addAll(List.of(address, how, is, next >> 8, next & 255));
            case 9 -> b.addAll(List.of(next >> 8, next & 255));
            default -> { }
        }
        for (int x : more) b.add(x);
        b.set(1, b.size() + 1);
        int sum = 90;
        for (int x : b) sum += x;
        b.add(sum % 256);
        int[] bytes = b.stream().mapToInt(x -> x).toArray();
        Rec r = new Rec(end(), kind, t, prev, address, was, is, how, next, bytes);
        recs.add(r);
        if (txs.containsKey(t)) txs.get(t).learn(r);
        return r;
    }

    static int apply(Rec r, int was) {
        if (r.kind == 2) return r.is;
        if (r.kind == 3) return (was + r.is) % 256;
        return r.how == 0 ? r.is : (was + r.is) % 256;
    }

    Frame held(int p) {
        for (Frame f : frames) if (f != null && f.page == p) return f;
        return null;
    }
    int frameNumber(int p) {
        for (int i = 0; i < 8; i++) if (frames[i] != null && frames[i].page == p) return i;
        return -1;
    }

    void writeOut(Frame f) {
        flushed = Math.max(flushed, find(f.stamp).past());
        disk[f.page] = f.bytes.clone();
        diskStamp[f.page] = f.stamp;
        f.rec = 0;
    }

    Frame fetch(int p) {
        Frame f = held(p);
        if (f == null) {
            int place = -1;
            for (int i = frameCount - 1; i >= 0; i--) if (frames[i] == null) place = i;
            if (place < 0) {
                place = 0;
                for (int i = 1; i < frameCount; i++) if (frames[i].used < frames[place].used) place = i;
                if (frames[place].rec != 0) writeOut(frames[place]);
            }
            f = new Frame();
            f.page = p; f.bytes = disk[p].clone(); f.stamp = diskStamp[p];
            frames[place] = f;
        }
        f.used = ++clock;
        return f;
    }

    void into(Frame f, Rec r) {
        f.bytes[r.address % 16] = apply(r, f.bytes[r.address % 16]);
        f.stamp = r.stamp;
        if (f.rec == 0) f.rec = r.stamp;
    }

    boolean frames(int n) {
        if (!up || n < 1 || n > 8) return false;
        for (Frame f : frames) if (f != null) return false;
        frameCount = n;
        return true;
    }

    Tx running(int t) {
        Tx x = txs.get(t);
        return x != null && x.is == 1 && up ? x : null;
    }

    void gone(int t) {
        txs.remove(t);
        for (Tx x : txs.values()) x.waits.remove(t);
    }

    boolean act(int t, int what) {
        if (!up || t < 1 || t > 9 || what < 0 || what > 4) return false;
        if (what == 0) {
            if (txs.containsKey(t) || full()) return false;
            txs.put(t, new Tx());
            put(t, 1, 0, 0, 0, 0, 0);
            return true;
        }
        Tx x = running(t);
        if (x == null) return false;
        if (what == 1) {
            if (!x.tops.isEmpty() || full()) return false;
            flushed = Math.max(flushed, put(t, 5, 0, 0, 0, 0, 0).past());
            put(t, 7, 0, 0, 0, 0, 0);
            gone(t);
        } else if (what == 2) {
            x.cursor = put(t, 6, 0, 0, 0, 0, 0).stamp;
            x.saves.clear(); x.tops.clear(); x.waits.clear();
        } else if (what == 3) {
            if (x.tops.size() == 4) return false;
            x.tops.add(x.last);
        } else {
            if (x.tops.isEmpty() || full()) return false;
            put(t, 9, 0, 0, 0, 0, x.tops.remove(x.tops.size() - 1));
        }
        return true;
    }

    boolean change(int t, int a, int v, boolean write) {
        Tx x = running(t);
        if (x == null || a < 0 || a > 255 || v > 255 || v < (write ? 0 : 1) || full() || lost.contains(a / 16)) return false;
        Set<Integer> others = new TreeSet<>();
        for (Map.Entry<Integer, Tx> e : txs.entrySet()) {
            if (e.getKey() != t && (e.getValue().wrote.contains(a) || write && e.getValue().added.contains(a))) others.add(e.getKey());
        }
        if (!others.isEmpty()) { x.waits = others; return false; }
        Frame f = fetch(a / 16);
        into(f, put(t, write ? 2 : 3, a, f.bytes[a % 16], v, 0, 0));
        (write ? x.wrote : x.added).add(a);
        x.waits.clear();
        return true;
    }

    int save(int t) {
        Tx x = running(t);
        if (x == null || x.saves.size() == 8) return -1;
        x.saves.add(x.last);
        return x.saves.size() - 1;
    }

    void undoOne(int t, Rec r) {
        Frame f = fetch(r.address / 16);
        into(f, r.kind == 2 ? put(t, 4, r.address, 0, r.was, 0, r.prev) : put(t, 4, r.address, 0, 256 - r.is, 1, r.prev));
    }

    int back(int t, int s) {
        Tx x = running(t);
        if (x == null || s < 0 || s >= x.saves.size()) return -1;
        int mark = x.saves.get(s), n = 0;
        while (!x.undo.isEmpty() && x.undo.get(x.undo.size() - 1).stamp > mark) {
            undoOne(t, x.undo.get(x.undo.size() - 1));
            n++;
        }
        while (x.saves.size() > s + 1) x.saves.remove(x.saves.size() - 1);
        x.tops.removeIf(top -> top > mark);
        x.waits.clear();
        return n;
    }

    int roll(int t, int n) {
        Tx x = txs.get(t);
        if (n < 1 || n > 20 || x == null || x.is != 2) return -1;
        for (int i = 1; i <= n; i++) {
            if (x.undo.isEmpty()) {
                put(t, 7, 0, 0, 0, 0, 0);
                gone(t);
                return i;
            }
            Rec r = x.undo.get(x.undo.size() - 1);
            undoOne(t, r);
            x.cursor = r.prev;
        }
        return n;
    }

    boolean keep(int what, int v) {
        if (!up) return false;
        boolean page = v >= 0 && v < 16;
        switch (what) {
            case 0:
                if (v == 0) { flushed = end(); return true; }
                if (find(v) == null) return false;
                flushed = Math.max(flushed, find(v).past());
                return true;
            case 1:
                if (!page || held(v) == null || held(v).rec == 0) return false;
                writeOut(held(v));
                return true;
            case 2:
                if (openCheck != 0 || full()) return false;
                openCheck = put(0, 8, 0, 0, 0, 0, 0).stamp;
                return true;
            case 3:
                return checkEnds();
            case 4:
                if (!page || lost.contains(v)) return false;
                archive[v] = disk[v].clone();
                archiveStamp[v] = diskStamp[v];
                return true;
            case 5:
                if (!page || lost.contains(v) || held(v) != null) return false;
                for (Tx x : txs.values()) {
                    Set<Integer> all = new HashSet<>(x.wrote);
                    all.addAll(x.added);
                    if (all.stream().anyMatch(a -> a / 16 == v)) return false;
                }
                disk[v] = new int[16];
                diskStamp[v] = 0;
                lost.add(v);
                return true;
            case 6:
                if (!lost.contains(v)) return false;
                restore(v);
                return true;
            default:
                return false;
        }
    }

    boolean checkEnds() {
        if (openCheck == 0 || full()) return false;
        List<Integer> b = new ArrayList<>();
        b.add(txs.size());
        txs.forEach((t, x) -> b.addAll(List.of(t, x.is, x.last / 256, x.last % 256)));
        Map<Integer, Integer> unclean = new TreeMap<>();
        for (Frame f : frames) if (f != null && f.rec != 0) unclean.put(f.page, f.rec);
        b.add(unclean.size());
        unclean.forEach((p, rec) -> b.addAll(List.of(p, rec / 256, rec % 256)));
        Rec r = put(0, 10, 0, 0, 0, 0, 0, b.stream().mapToInt(x -> x).toArray());
        flushed = Math.max(flushed, r.past());
        master = openCheck;
        openCheck = 0;
        return true;
    }

    void restore(int p) {
        flushed = end();
        disk[p] = archive[p].clone();
        diskStamp[p] = archiveStamp[p];
        for (Rec r : recs) {
            if (r.touches() && r.address / 16 == p && r.stamp > diskStamp[p]) {
                disk[p][r.address % 16] = apply(r, disk[p][r.address % 16]);
                diskStamp[p] = r.stamp;
            }
        }
        lost.remove(p);
    }

    boolean crash(int m) {
        if (!up || m < 0 || m > 999) return false;
        fall(m);
        return true;
    }

    void fall(int m) {
        int stop = Math.min(end(), flushed + m);
        List<Integer> bytes = new ArrayList<>();
        List<Rec> whole = new ArrayList<>();
        for (Rec r : recs) {
            if (r.past() <= stop) whole.add(r);
            else for (int i = 0; i < r.bytes.length && r.stamp + i < stop; i++) bytes.add(r.bytes[i]);
        }
        recs = whole;
        torn = bytes;
        flushed = stop;
        frames = new Frame[8];
        txs.clear();
        openCheck = 0;
        up = false;
        crashes++;
    }

    int recover(int n) {
        if (up || n < -1 || n > 99) return -1;
        for (int p = 0; p < 16; p++) if (lost.contains(p)) restore(p);
        torn.clear();
        flushed = end();
        received = Math.min(received, end());
        Map<Integer, Integer> unclean = new TreeMap<>();
        analyse(master, unclean);
        losers = 0;
        for (Map.Entry<Integer, Tx> e : txs.entrySet()) if (!e.getValue().committed) losers |= 1 << e.getKey();
        redone = 0;
        for (Rec r : recs) {
            int p = r.address / 16;
            if (r.touches() && unclean.containsKey(p) && r.stamp >= unclean.get(p)) {
                Frame f = fetch(p);
                if (f.stamp < r.stamp) { into(f, r); redone++; }
            }
        }
        return undoAll(n);
    }

    /** By the stack of each transaction, learnt from 8 on; but which ones are there as the document says. */
    void analyse(int from, Map<Integer, Integer> unclean) {
        Map<Integer, Tx> all = new TreeMap<>();
        for (Rec r : recs) {
            if (r.who != 0) {
                all.computeIfAbsent(r.who, k -> new Tx()).learn(r);
                if (r.kind == 7) all.remove(r.who);
            }
        }
        Map<Integer, int[]> there = new TreeMap<>();
        for (Rec r : recs) {
            if (r.stamp < from) continue;
            if (r.who != 0) {
                there.computeIfAbsent(r.who, k -> new int[] {1, 0})[1] = r.stamp;
                if (r.kind == 6) there.get(r.who)[0] = 2;
                if (r.kind == 7) there.remove(r.who);
            }
            if (r.touches()) unclean.putIfAbsent(r.address / 16, r.stamp);
            if (r.kind == 10) {
                int[] b = r.bytes;
                int i = 6;
                for (int k = 0; k < b[5]; k++, i += 4) there.putIfAbsent(b[i], new int[] {b[i + 1], b[i + 2] * 256 + b[i + 3]});
                for (int k = 0, c = b[i++]; k < c; k++, i += 3) unclean.merge(b[i], b[i + 1] * 256 + b[i + 2], Math::min);
            }
        }
        // the checkpoint must tell just what the whole log would
        if (!there.keySet().equals(all.keySet())) throw new IllegalStateException("analysis " + there.keySet() + " " + all.keySet());
        there.forEach((t, x) -> {
            // (not IS: one that rolled back between 8 and 10 is found with IS 1, and nothing asks for it)
            if (x[1] != all.get(t).last) throw new IllegalStateException("analysis of " + t);
        });
        txs = all;
    }

    int undoAll(int n) {
        int written = 0;
        for (int t = 1; t <= 9; t++) {
            if (txs.containsKey(t) && txs.get(t).committed) {
                if (written == n) { fall(0); return written; }
                put(t, 7, 0, 0, 0, 0, 0);
                txs.remove(t);
                written++; wroteSeven++;
                flushed = end();
            }
        }
        for (Tx x : txs.values()) x.cursor = x.last;
        while (!txs.isEmpty()) {
            int best = 0;
            for (int t : txs.keySet()) if (best == 0 || txs.get(t).cursor > txs.get(best).cursor) best = t;
            Tx x = txs.get(best);
            Rec r = find(x.cursor);
            if (r != null && r.kind != 2 && r.kind != 3) {
                x.cursor = r.kind == 4 || r.kind == 9 ? r.next : r.prev;
                continue;
            }
            if (written == n) { fall(0); return written; }
            written++;
            if (r == null) {
                put(best, 7, 0, 0, 0, 0, 0);
                txs.remove(best);
                wroteSeven++;
            } else {
                undoOne(best, r);
                x.cursor = r.prev;
                wroteFour++;
            }
            flushed = end();
        }
        up = true;
        return written;
    }

    int feed(int... five) {
        if (tape.length() + 20 > 400) return -1;
        for (int x : five) for (int k = 3; k >= 0; k--) tape.append((char) (x >>> 8 * k & 255));
        return tape.length();
    }

    boolean end(int n) {
        if (n < 0 || n > tape.length()) return false;
        tape.setLength(n);
        return true;
    }

    static final List<String> VERBS = List.of("begin", "write", "add", "save", "back", "open", "close", "commit",
        "abort", "roll", "flush", "page", "check", "over");

    int[] faultAt(int kind, int place) { return new int[] {kind, place}; }

    int plan() {
        String text = tape.toString();
        tape.setLength(0);
        List<int[]> lines = new ArrayList<>();
        int[] wrong = read(text, lines);
        fault = wrong == null ? 0 : wrong[0];
        faultPlace = wrong == null ? -1 : wrong[1];
        if (wrong != null) return -1;
        plan = lines;
        ran = 0;
        return plan.size();
    }

    int[] read(String text, List<int[]> lines) {
        List<String> words = new ArrayList<>();
        List<Integer> places = new ArrayList<>();
        Matcher m = Pattern.compile("[A-Za-z]+|[0-9]+|;|[^ \\nA-Za-z0-9;]", Pattern.DOTALL).matcher(text);
        while (m.find()) { words.add(m.group()); places.add(m.start()); }
        words.add("");
        places.add(text.length());
        int i = 0;
        while (!words.get(i).isEmpty()) {
            int first = i;
            int[] line = new int[4];
            String w = words.get(i);
            if (w.matches("[0-9]{1,4}")) {
                line[1] = Integer.parseInt(w);
                if (line[1] < 1 || line[1] > 9) return faultAt(2, places.get(i));
                if (lines.size() == 24) return faultAt(3, places.get(first));
                w = words.get(++i);
                if (!VERBS.subList(0, 10).contains(w)) return faultAt(1, places.get(i));
            } else {
                if (!VERBS.subList(10, 14).contains(w)) return faultAt(1, places.get(i));
                if (lines.size() == 24) return faultAt(3, places.get(first));
            }
            line[0] = VERBS.indexOf(w);
            int[][] bounds = switch (w) {
                case "write" -> new int[][] {{0, 255}, {0, 255}};
                case "add" -> new int[][] {{0, 255}, {1, 255}};
                case "back" -> new int[][] {{0, 7}};
                case "roll" -> new int[][] {{1, 9}};
                case "page" -> new int[][] {{0, 15}};
                default -> new int[0][];
            };
            for (int k = 0; k < bounds.length; k++) {
                w = words.get(++i);
                if (!w.matches("[0-9]{1,4}")) return faultAt(1, places.get(i));
                line[2 + k] = Integer.parseInt(w);
                if (line[2 + k] < bounds[k][0] || line[2 + k] > bounds[k][1]) return faultAt(2, places.get(i));
            }
            if (!words.get(++i).equals(";")) return faultAt(1, places.get(i));
            i++;
            lines.add(line);
        }
        return null;
    }

    int run(int n) {
        if (!up || n < 1 || n > 24) return -1;
        int good = 0;
        for (int i = 0; i < n && ran < plan.size(); i++) {
            int[] l = plan.get(ran++);
            boolean ok = switch (VERBS.get(l[0])) {
                case "begin" -> act(l[1], 0);
                case "write" -> change(l[1], l[2], l[3], true);
                case "add" -> change(l[1], l[2], l[3], false);
                case "save" -> save(l[1]) != -1;
                case "back" -> back(l[1], l[2]) != -1;
                case "open" -> act(l[1], 3);
                case "close" -> act(l[1], 4);
                case "commit" -> act(l[1], 1);
                case "abort" -> act(l[1], 2);
                case "roll" -> roll(l[1], l[2]) != -1;
                case "flush" -> keep(0, 0);
                case "page" -> keep(1, l[2]);
                case "check" -> keep(2, 0);
                default -> keep(3, 0);
            };
            if (ok) good++;
        }
        return good;
    }

    int set(Set<Integer> s) { return s.stream().mapToInt(t -> 1 << t).sum(); }
    int byteNow(int a) { return held(a / 16) == null ? disk[a / 16][a % 16] : held(a / 16).bytes[a % 16]; }

    int at(int a, int what) {
        if (a < 0 || a > 255 || what < 0 || what > 3) return -1;
        if (what == 0) return byteNow(a);
        if (what == 1) return disk[a / 16][a % 16];
        int s = 0;
        for (Map.Entry<Integer, Tx> e : txs.entrySet()) {
            if ((what == 2 ? e.getValue().wrote : e.getValue().added).contains(a)) s |= 1 << e.getKey();
        }
        return s;
    }

    int page(int p, int what) {
        if (p < 0 || p > 15) return -1;
        Frame f = held(p);
        return switch (what) {
            case 0 -> f == null ? diskStamp[p] : f.stamp;
            case 1 -> diskStamp[p];
            case 2 -> frameNumber(p);
            case 3 -> f == null ? 0 : f.rec;
            case 4 -> lost.contains(p) ? 1 : 0;
            case 5 -> archiveStamp[p];
            default -> -1;
        };
    }

    boolean deadlock(int t) {
        Set<Integer> seen = new HashSet<>();
        List<Integer> todo = new ArrayList<>(txs.containsKey(t) ? txs.get(t).waits : Set.of());
        while (!todo.isEmpty()) {
            int u = todo.remove(0);
            if (seen.add(u) && txs.containsKey(u)) todo.addAll(txs.get(u).waits);
        }
        return seen.contains(t);
    }

    int tx(int t, int what) {
        if (t < 1 || t > 9 || what < 0 || what > 7) return -1;
        Tx x = txs.get(t);
        if (x == null) return 0;
        return switch (what) {
            case 0 -> x.is;
            case 1 -> x.last;
            case 2 -> x.is == 2 ? x.cursor : 0;
            case 3 -> x.saves.size();
            case 4 -> x.tops.size();
            case 5 -> set(x.waits);
            case 6 -> x.undo.size();
            default -> deadlock(t) ? 1 : 0;
        };
    }

    int log(int i) {
        if (i < 8 || i >= end()) return -1;
        if (i >= wholeEnd()) return torn.get(i - wholeEnd());
        for (Rec r : recs) if (i < r.past()) return r.bytes[i - r.stamp];
        return -1;
    }

    int record(int s, int what) {
        Rec r = find(s);
        if (r == null) return -1;
        return switch (what) {
            case 0 -> r.kind;
            case 1 -> r.bytes.length;
            case 2 -> r.who;
            case 3 -> r.prev;
            case 4 -> r.kind == 4 || r.kind == 9 ? r.next : -1;
            case 5 -> r.touches() ? r.address : -1;
            case 6 -> r.past() <= flushed ? 1 : 0;
            default -> -1;
        };
    }

    int would(int m, int e, int what) {
        if (m < 0 || m > 999 || e < 0 || e > 9 || what < 0 || what > 261) return -1;
        Model x = copy();
        if (x.up) x.fall(m);
        int before = x.crashes, firstLosers = -1, all = 0;
        while (!x.up) {
            x.recover(e == 0 ? -1 : e);
            if (firstLosers < 0) firstLosers = x.losers;
            all += x.redone;
        }
        return switch (what) {
            case 256 -> x.wroteFour;
            case 257 -> x.wroteSeven;
            case 258 -> all;
            case 259 -> x.crashes - before;
            case 260 -> x.end();
            case 261 -> firstLosers;
            default -> x.byteNow(what);
        };
    }

    int victim() {
        int best = -1;
        for (int t = 1; t <= 9; t++) {
            if (deadlock(t) && (best < 0 || tx(t, 6) < tx(best, 6))) best = t;
        }
        return best;
    }

    int ship(int n) {
        if (n < 1 || n > 999) return -1;
        received = Math.min(received + n, flushed);
        for (Rec r : recs) {
            if (r.stamp != done || r.past() > received) continue;
            if (r.touches()) {
                standRow[r.address] = apply(r, standRow[r.address]);
                standStamp[r.address / 16] = r.stamp;
            }
            done = r.past();
        }
        return received;
    }

    /** Transaction by transaction: that the order among them is all the same is part of what is tested. */
    int rolledBack(int[] row, int upTo, int a) {
        int[] r2 = row.clone();
        Map<Integer, Tx> there = new TreeMap<>();
        for (Rec r : recs) {
            if (r.stamp >= upTo || r.who == 0) continue;
            there.computeIfAbsent(r.who, k -> new Tx()).learn(r);
            if (r.kind == 7) there.remove(r.who);
        }
        for (Tx x : there.values()) {
            if (x.committed) continue;
            for (int i = x.undo.size() - 1; i >= 0; i--) {
                Rec r = x.undo.get(i);
                r2[r.address] = r.kind == 2 ? r.was : (r2[r.address] + 256 - r.is) % 256;
            }
        }
        return r2[a];
    }

    int stand(int a, int what) {
        if (a < 0 || a > 255) return -1;
        return switch (what) {
            case 0 -> standRow[a];
            case 1 -> rolledBack(standRow, done, a);
            case 2 -> standStamp[a / 16];
            default -> -1;
        };
    }

    int asOf(int a, int s) {
        if (a < 0 || a > 255 || find(s) == null) return -1;
        int[] row = new int[256];
        for (Rec r : recs) if (r.stamp <= s && r.touches()) row[r.address] = apply(r, row[r.address]);
        return rolledBack(row, find(s).past(), a);
    }

    int count(int k) { return k < 1 || k > 10 ? -1 : (int) recs.stream().filter(r -> r.kind == k).count(); }

    boolean image(boolean taken) {
        if (taken) image = copy();
        else if (image != null) take(image);
        return image != null;
    }

    int look(int what) {
        int s = 0;
        switch (what) {
            case 0: return up ? 1 : 0;
            case 1: return end();
            case 2: return flushed;
            case 3: return master;
            case 4: return frameCount;
            case 5:
                for (Frame f : frames) if (f != null && f.rec != 0) s++;
                return s;
            case 6:
            case 7:
                for (Map.Entry<Integer, Tx> e : txs.entrySet()) if (e.getValue().is == what - 5) s |= 1 << e.getKey();
                return s;
            case 8: return openCheck;
            case 9: return needed();
            case 10: return plan.size();
            case 11: return ran;
            case 12: return redone;
            case 13: return crashes;
            case 14: return set(lost);
            case 15: return received;
            case 16: return done;
            case 17:
                for (int t = 1; t <= 9; t++) if (deadlock(t)) s |= 1 << t;
                return s;
            case 18: return recs.size();
            default: return -100000;
        }
    }

    int needed() {
        if (!up) return 8;
        int least = master == 0 ? 8 : master;
        for (Frame f : frames) if (f != null && f.rec != 0) least = Math.min(least, f.rec);
        for (int t : txs.keySet()) {
            int begin = 0;
            for (Rec r : recs) if (r.who == t && r.kind == 1) begin = r.stamp;
            least = Math.min(least, begin);
        }
        return least;
    }
}
