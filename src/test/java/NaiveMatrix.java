import java.util.ArrayList;
import java.util.Comparator;
import java.util.List;
import java.util.function.ToIntFunction;

/**
 * The document written down a second time, as slowly and plainly as can be: lists of objects, no bits,
 * every search by trying all. ModelTest compares GangMatrix with it.
 */
final class NaiveMatrix {
    static final int NONE = -1;

    static final class Job {
        int number, size, work, user, after, state, left, kept, column = NONE, width;
        int ran, extra, stopped, came, first = NONE, end = NONE, restarts, passed, moves;
        Slot slot;
    }

    static final class Slot {
        long pass;
        int turns;
        List<Job> jobs = new ArrayList<>();
    }

    static final class Spot {
        Slot slot;
        int column;

        Spot(Slot slot, int column) {
            this.slot = slot;
            this.column = column;
        }
    }

    int[] told = {16, 4, 0, 0, 0, 10, 1, 0, 1, 1};
    int time;
    int[] share = {1, 1, 1, 1, 1, 1};
    int[] used = new int[6];
    boolean[] dead = new boolean[32];
    List<Job> jobs = new ArrayList<>();
    List<Job> waiting = new ArrayList<>();
    List<int[]> arrivals = new ArrayList<>();
    List<Slot> slots = new ArrayList<>();
    List<int[]> log = new ArrayList<>();
    List<int[]> went = new ArrayList<>();
    int[] counts = new int[11];
    NaiveMatrix image;

    NaiveMatrix copy() {
        NaiveMatrix n = new NaiveMatrix();
        n.take(this);
        return n;
    }

    void take(NaiveMatrix o) {
        told = o.told.clone();
        time = o.time;
        share = o.share.clone();
        used = o.used.clone();
        dead = o.dead.clone();
        counts = o.counts.clone();
        log = new ArrayList<>(o.log);
        went = new ArrayList<>(o.went);
        arrivals = new ArrayList<>(o.arrivals);
        jobs = new ArrayList<>();
        for (Job a : o.jobs) {
            Job b = new Job();
            b.number = a.number; b.size = a.size; b.work = a.work; b.user = a.user; b.after = a.after;
            b.state = a.state; b.left = a.left; b.kept = a.kept; b.column = a.column; b.width = a.width;
            b.ran = a.ran; b.extra = a.extra; b.stopped = a.stopped; b.came = a.came; b.first = a.first;
            b.end = a.end; b.restarts = a.restarts; b.passed = a.passed; b.moves = a.moves;
            jobs.add(b);
        }
        waiting = new ArrayList<>();
        for (Job a : o.waiting) waiting.add(jobs.get(a.number));
        slots = new ArrayList<>();
        for (Slot a : o.slots) {
            Slot b = new Slot();
            b.pass = a.pass;
            b.turns = a.turns;
            for (Job j : a.jobs) {
                b.jobs.add(jobs.get(j.number));
                jobs.get(j.number).slot = b;
            }
            slots.add(b);
        }
    }

    // ---- terms

    int p() { return told[0]; }

    void line(int what, int job, int slot, int column) { log.add(new int[] {time, what, job, slot, column}); }

    int at(Job j) { return j.slot == null ? NONE : slots.indexOf(j.slot); }

    static int width(int size) {
        for (int w = 1; ; w *= 2) if (w >= size) return w;
    }

    static boolean meets(Job j, int column, int width) {
        return j.column < column + width && column < j.column + j.width;
    }

    boolean anyDead(int column, int width) {
        for (int c = column; c < column + width; c++) if (dead[c]) return true;
        return false;
    }

    boolean isFree(Slot s, int column, int width) {
        if (anyDead(column, width)) return false;
        for (Job j : s.jobs) if (meets(j, column, width)) return false;
        return true;
    }

    List<Job> placed() {
        List<Job> l = new ArrayList<>();
        for (Job j : jobs) if (j.state == 2) l.add(j);
        return l;
    }

    int loadAt(int column) {
        int n = 0;
        for (Job j : placed()) if (meets(j, column, 1)) n++;
        return n;
    }

    int greatest() {
        int g = 0;
        for (int c = 0; c < p(); c++) g = Math.max(g, loadAt(c));
        return g;
    }

    Slot newSlot() {
        Slot s = new Slot();
        s.pass = leastPass();
        slots.add(s);
        return s;
    }

    long leastPass() {
        return slots.stream().mapToLong(s -> s.pass).min().orElse(0);
    }

    void dropEmpty() { slots.removeIf(s -> s.jobs.isEmpty()); }

    int weight(Slot s) { return s.jobs.stream().mapToInt(j -> share[j.user]).sum(); }

    int room(Slot s, int column, int width) {
        int room = 0;
        for (int w = width; w <= p(); w *= 2) {
            int c = column / w * w;
            if (isFree(s, c, w)) room = w;
        }
        return room;
    }

    int[] fitKey(Slot s, int column, int width) {
        if (told[2] == 0) return new int[] {0, 0};
        if (told[2] == 1) return new int[] {room(s, column, width), 0};
        int max = 0, sum = 0;
        for (int c = column; c < column + width; c++) {
            max = Math.max(max, loadAt(c));
            sum += loadAt(c);
        }
        return new int[] {max, sum};
    }

    Spot findSpot(int width) {
        List<Slot> in = new ArrayList<>(slots);
        Spot spot = bestOf(in, width);
        if (spot == null && slots.size() < told[1]) {
            in.clear();
            in.add(new Slot());
            spot = bestOf(in, width);
        }
        return spot;
    }

    Spot bestOf(List<Slot> in, int width) {
        Spot best = null;
        int[] bestKey = null;
        for (Slot s : in) {
            for (int c = 0; c + width <= p(); c += width) {
                if (!isFree(s, c, width)) continue;
                int[] k = fitKey(s, c, width);
                if (best == null || k[0] < bestKey[0] || k[0] == bestKey[0] && k[1] < bestKey[1]) {
                    best = new Spot(s, c);
                    bestKey = k;
                }
            }
        }
        return best;
    }

    void put(Job j, Slot s, int column) {
        if (!slots.contains(s)) {
            s.pass = leastPass();
            slots.add(s);
        }
        s.jobs.add(j);
        j.slot = s;
        j.column = column;
        j.state = 2;
    }

    void place(Job j, Spot spot, int what) {
        waiting.remove(j);
        put(j, spot.slot, spot.column);
        if (j.first == NONE) j.first = time;
        line(what, j.number, at(j), j.column);
    }

    void out(Job j) {
        if (j.slot != null) j.slot.jobs.remove(j);
        j.slot = null;
        j.column = NONE;
    }

    int byRatio(Job a, Job b) {
        return Long.compare((long) used[a.user] * share[b.user], (long) used[b.user] * share[a.user]);
    }

    List<Job> theQueue() {
        List<Job> q = new ArrayList<>(waiting);
        if (told[3] == 1) q.sort(this::byRatio);
        return q;
    }

    void goOn() {
        while (!waiting.isEmpty()) {
            Job first = theQueue().get(0);
            Spot spot = findSpot(first.width);
            if (spot == null) break;
            place(first, spot, 1);
        }
        List<Job> q = theQueue();
        if (q.isEmpty() || q.get(0).passed >= told[5]) return;
        for (int i = 1; i <= told[4] && i < q.size(); i++) {
            Spot spot = findSpot(q.get(i).width);
            if (spot == null) continue;
            place(q.get(i), spot, 2);
            counts[9]++;
            q.get(0).passed++;
            if (q.get(0).passed == told[5]) break;
        }
    }

    Job come(int size, int work, int user, int after) {
        Job j = new Job();
        j.number = jobs.size();
        j.size = size; j.work = work; j.user = user; j.after = after;
        j.left = work; j.kept = work; j.came = time; j.width = width(size);
        jobs.add(j);
        if (after == NONE || jobs.get(after).state == 3) {
            j.state = 1;
            waiting.add(j);
        }
        line(0, j.number, NONE, NONE);
        return j;
    }

    boolean[] cellsOf(List<Job> of) {
        boolean[] cells = new boolean[32];
        for (Job j : of) for (int c = j.column; c < j.column + j.size; c++) cells[c] = true;
        return cells;
    }

    List<Job> ownOf(Slot s) {
        List<Job> own = new ArrayList<>();
        for (Job j : s.jobs) if (j.stopped == 0) own.add(j);
        return own;
    }

    List<Job> lentBy(Slot s) {
        List<Job> others = placed();
        others.removeIf(j -> j.slot == s || j.stopped > 0);
        others.sort(this::byRatio);
        List<Job> running = ownOf(s);
        List<Job> lent = new ArrayList<>();
        for (Job j : others) {
            boolean[] cells = cellsOf(running);
            boolean clear = true;
            for (int c = j.column; c < j.column + j.size; c++) clear &= !cells[c];
            if (clear) {
                running.add(j);
                lent.add(j);
            }
        }
        return lent;
    }

    void runs(Job j, boolean lent) {
        j.left--;
        if (lent) { j.extra++; counts[10]++; } else j.ran++;
        used[j.user] += j.size;
        if (told[7] > 0 && (j.ran + j.extra) % told[7] == 0) j.kept = j.left;
    }

    int oneQuantum() {
        for (int[] a : new ArrayList<>(arrivals)) {
            if (a[0] <= time) {
                arrivals.remove(a);
                come(a[1], a[2], a[3], NONE);
            }
        }
        goOn();
        Slot turn = null;
        for (Slot s : slots) if (turn == null || s.pass < turn.pass) turn = s;
        int turnAt = slots.indexOf(turn);
        List<Job> own = new ArrayList<>(), lent = new ArrayList<>();
        if (turn != null) {
            turn.pass += 1000000 / weight(turn);
            turn.turns++;
            own = ownOf(turn);
            if (told[8] == 1) lent = lentBy(turn);
            for (Job j : own) runs(j, false);
            for (Job j : lent) runs(j, true);
            for (Job j : placed()) if (j.stopped > 0) j.stopped--;
        }
        List<Job> all = new ArrayList<>(own);
        all.addAll(lent);
        int usedNow = 0;
        for (int c = 0; c < p(); c++) {
            boolean still = false, inside = false;
            if (turn != null) for (Job j : turn.jobs) {
                inside |= meets(j, c, 1);
                still |= c >= j.column && c < j.column + j.size;
            }
            int sort = dead[c] ? 4 : cellsOf(all)[c] ? 0 : still ? 1 : inside ? 2 : 3;
            counts[sort]++;
            if (sort == 0) usedNow++;
        }
        went.add(new int[] {turnAt, own.size(), lent.size(), usedNow});
        time++;
        int done = 0;
        List<Job> ended = new ArrayList<>();
        for (Job j : placed()) if (j.left == 0) ended.add(j);
        for (Job j : ended) line(3, j.number, at(j), j.column);
        for (Job j : ended) {
            out(j);
            j.state = 3;
            j.end = time;
            done++;
        }
        dropEmpty();
        for (Job j : jobs) if (j.state == 0 && jobs.get(j.after).state == 3) {
            j.state = 1;
            waiting.add(j);
        }
        if (told[9] == 1) unifyAll();
        goOn();
        return done;
    }

    int unifyAll() {
        int n = 0;
        boolean again = true;
        while (again) {
            again = false;
            search:
            for (int a = 0; a < slots.size(); a++) for (int b = a + 1; b < slots.size(); b++) {
                Slot first = slots.get(a), behind = slots.get(b);
                boolean share = false;
                for (Job i : first.jobs) for (Job j : behind.jobs) share |= meets(i, j.column, j.width);
                if (share) continue;
                line(7, NONE, a, b);
                for (Job j : behind.jobs) { first.jobs.add(j); j.slot = first; }
                first.pass = Math.min(first.pass, behind.pass);
                first.turns += behind.turns;
                slots.remove(b);
                n++;
                counts[7]++;
                again = true;
                break search;
            }
        }
        return n;
    }

    void repackAll() {
        List<Job> l = placed();
        List<Slot> old = slots;
        ToIntFunction<Job> slotHad = j -> old.indexOf(j.slot);
        l.sort(Comparator.<Job>comparingInt(j -> -j.width).thenComparingInt(slotHad)
            .thenComparingInt(j -> j.column).thenComparingInt(j -> j.number));
        long least = leastPass();
        slots = new ArrayList<>();
        for (Job j : l) {
            Slot to = null;
            for (Slot s : slots) if (to == null && isFree(s, j.column, j.width)) to = s;
            if (to == null) to = newSlot();
            to.jobs.add(j);
        }
        for (Slot s : slots) {
            s.pass = least;
            s.turns = 0;
            for (Job j : s.jobs) j.slot = s;
        }
    }

    int killTree(Job j) {
        out(j);
        waiting.remove(j);
        j.state = 4;
        j.end = time;
        line(4, j.number, NONE, NONE);
        int n = 1;
        for (Job k : jobs) if (k.state == 0 && k.after == j.number) n += killTree(k);
        return n;
    }

    void putBack(List<Job> l) {
        for (Job j : l) line(5, j.number, at(j), j.column);
        for (Job j : l) {
            out(j);
            j.state = 1;
            waiting.add(j);
            counts[5] += j.size * (j.kept - j.left);
            j.left = j.kept;
            j.stopped = 0;
            j.restarts++;
            counts[8]++;
        }
    }

    int stop(Job j) { return (int) Math.ceil(told[6] * j.size / 4.0); }

    void moved(Job j) {
        j.stopped = stop(j);
        j.moves++;
        counts[6]++;
    }

    boolean couldMove(Job j, int c) {
        return c >= 0 && c < p() && c % j.width == 0 && c != j.column && !anyDead(c, j.width);
    }

    int greatestIf(Job j, int c) {
        int had = j.column;
        j.column = c;
        int g = greatest();
        j.column = had;
        return g;
    }

    int best(Job j) {
        int best = NONE;
        for (int c = 0; c < p(); c++) {
            if (couldMove(j, c) && (best == NONE || greatestIf(j, c) < greatestIf(j, best))) best = c;
        }
        return best;
    }

    int leastLeft() { return placed().stream().mapToInt(j -> j.left).min().orElse(0); }

    int gain(Job j) { return (greatest() - greatestIf(j, best(j))) * p() * leastLeft(); }

    int cost(Job j) { return stop(j) * j.size; }

    /** The new columns by number of job; behind them, at 60, the greatest load then. */
    int[] packing() {
        int[] to = new int[61];
        int[] loads = new int[32];
        List<Job> l = placed();
        l.sort(Comparator.comparingInt(j -> -j.width));
        for (Job j : l) {
            int least = 99;
            List<Integer> at = new ArrayList<>();
            for (int c = 0; c < p(); c += j.width) {
                if (anyDead(c, j.width)) continue;
                int g = 0;
                for (int k = c; k < c + j.width; k++) g = Math.max(g, loads[k]);
                if (g < least) { least = g; at.clear(); }
                if (g == least) at.add(c);
            }
            to[j.number] = at.contains(j.column) ? j.column : at.get(0);
            for (int k = 0; k < j.width; k++) to[60] = Math.max(to[60], ++loads[to[j.number] + k]);
        }
        return to;
    }

    int[] packed() {
        int[] to = packing();
        int others = 0, cost = 0;
        for (Job j : placed()) if (to[j.number] != j.column) {
            others++;
            cost += cost(j);
        }
        return new int[] {to[60], others, (greatest() - to[60]) * p() * leastLeft(), cost};
    }

    List<Job> hit(Slot s, int c, int width) {
        List<Job> l = new ArrayList<>();
        for (Job j : placed()) if (j.slot == s && meets(j, c, width)) l.add(j);
        return l;
    }

    static int loss(List<Job> l) { return l.stream().mapToInt(j -> j.size * (j.kept - j.left)).sum(); }

    Spot urgeSpot(Job j) {
        Spot best = null;
        int loss = 0, hits = 0;
        for (Slot s : slots) for (int c = 0; c < p(); c += j.width) {
            if (anyDead(c, j.width)) continue;
            List<Job> h = hit(s, c, j.width);
            if (best == null || loss(h) < loss || loss(h) == loss && h.size() < hits) {
                best = new Spot(s, c);
                loss = loss(h);
                hits = h.size();
            }
        }
        return best;
    }

    int thinBy(int k, int from) {
        int least = greatest();
        if (k == 0) return least;
        for (Job j : placed()) {
            if (j.number < from) continue;
            int had = j.column;
            for (int c = 0; c < p(); c += j.width) {
                if (anyDead(c, j.width)) continue;
                j.column = c;
                least = Math.min(least, thinBy(k - 1, j.number + 1));
            }
            j.column = had;
        }
        return least;
    }

    // ---- the face

    boolean went(boolean done) {
        if (done) goOn();
        return done;
    }

    boolean set(int what, int v) {
        int[] low = {4, 1, 0, 0, 0, 0, 0, 0, 0, 0};
        int[] high = {32, 8, 2, 1, 9, 99, 9, 99, 1, 1};
        if (what < 0 || what > 9 || v < low[what] || v > high[what]) return false;
        if (what == 0) {
            if (v != 4 && v != 8 && v != 16 && v != 32) return false;
            if (!jobs.isEmpty() || !arrivals.isEmpty()) return false;
            dead = new boolean[32];
        }
        told[what] = v;
        return went(true);
    }

    boolean share(int user, int v) {
        if (user < 0 || user > 5 || v < 1 || v > 9) return false;
        share[user] = v;
        return went(true);
    }

    boolean can(int size, int work, int user) {
        return size >= 1 && size <= p() && work >= 1 && work <= 9999 && user >= 0 && user <= 5
            && jobs.size() + arrivals.size() < 60;
    }

    int job(int size, int work, int user, int after) {
        if (!can(size, work, user)) return NONE;
        if (after < NONE || after >= jobs.size() || after >= 0 && jobs.get(after).state == 4) return NONE;
        Job j = come(size, work, user, after);
        goOn();
        return j.number;
    }

    int later(int t, int size, int work, int user) {
        if (t < time || t > 99999 || !can(size, work, user)) return NONE;
        arrivals.add(new int[] {t, size, work, user});
        return arrivals.size();
    }

    Job get(int job) { return job >= 0 && job < jobs.size() ? jobs.get(job) : null; }

    Job getPlaced(int job) {
        Job j = get(job);
        return j != null && j.state == 2 ? j : null;
    }

    int kill(int job) {
        Job j = get(job);
        if (j == null || j.state >= 3) return NONE;
        int n = killTree(j);
        dropEmpty();
        goOn();
        return n;
    }

    int quantum(int n) {
        if (n < 1 || n > 100) return NONE;
        int done = 0;
        for (int i = 0; i < n; i++) done += oneQuantum();
        return done;
    }

    boolean down(int column) {
        if (column < 0 || column >= p() || dead[column]) return false;
        dead[column] = true;
        List<Job> l = placed();
        l.removeIf(j -> !meets(j, column, 1));
        putBack(l);
        dropEmpty();
        return went(true);
    }

    boolean up(int column) {
        if (column < 0 || column >= p() || !dead[column]) return false;
        dead[column] = false;
        return went(true);
    }

    int unify() {
        int n = unifyAll();
        goOn();
        return n;
    }

    int repack() {
        repackAll();
        int n = slots.size();
        goOn();
        return n;
    }

    boolean move(int job, int column) {
        Job j = getPlaced(job);
        if (j == null || !couldMove(j, column)) return false;
        NaiveMatrix before = copy();
        out(j);
        dropEmpty();
        Slot to = null;
        for (Slot s : slots) if (to == null && isFree(s, column, j.width)) to = s;
        if (to == null && slots.size() >= told[1]) {
            take(before);
            return false;
        }
        put(j, to == null ? newSlot() : to, column);
        moved(j);
        line(6, job, at(j), column);
        return went(true);
    }

    boolean migrate(int job) {
        Job j = getPlaced(job);
        if (j == null || best(j) == NONE || gain(j) <= cost(j)) return false;
        j.column = best(j);
        moved(j);
        repackAll();
        line(6, job, at(j), j.column);
        return went(true);
    }

    int weigh(int job, int what) {
        Job j = getPlaced(job);
        if (j == null || best(j) == NONE || what < 0 || what > 4) return -1000000000;
        int[] a = {best(j), greatest() - greatestIf(j, best(j)), gain(j), cost(j), gain(j) > cost(j) ? 1 : 0};
        return a[what];
    }

    int pack(int what) { return what < 0 || what > 3 ? -1000000000 : packed()[what]; }

    boolean relay() {
        int[] a = packed();
        if (a[2] <= a[3]) return false;
        int[] to = packing();
        List<Job> l = placed();
        l.removeIf(j -> to[j.number] == j.column);
        for (Job j : l) {
            j.column = to[j.number];
            moved(j);
        }
        repackAll();
        for (Job j : l) line(6, j.number, at(j), j.column);
        return went(true);
    }

    Job getWaiting(int job) {
        Job j = get(job);
        return j != null && j.state == 1 ? j : null;
    }

    boolean urge(int job) {
        Job j = getWaiting(job);
        Spot spot = j == null ? null : urgeSpot(j);
        if (spot == null) return false;
        putBack(hit(spot.slot, spot.column, j.width));
        place(j, spot, 1);
        return went(true);
    }

    int urged(int job, int what) {
        Job j = getWaiting(job);
        Spot spot = j == null ? null : urgeSpot(j);
        if (spot == null || what < 0 || what > 3) return NONE;
        List<Job> h = hit(spot.slot, spot.column, j.width);
        return new int[] {slots.indexOf(spot.slot), spot.column, h.size(), loss(h)}[what];
    }

    int thin(int k) {
        if (k < 0 || k > 2 || k == 2 && placed().size() > 8) return NONE;
        return thinBy(k, 0);
    }

    int where(int size, int what) {
        if (size < 1 || size > p() || what < 0 || what > 1) return NONE;
        Spot spot = findSpot(width(size));
        if (spot == null) return NONE;
        if (what == 1) return spot.column;
        return slots.contains(spot.slot) ? slots.indexOf(spot.slot) : slots.size();
    }

    int free(int slot, int width, int what) {
        if (slot < 0 || slot >= slots.size() || what < 0 || what > 1) return NONE;
        if (width < 1 || width > p() || width(width) != width) return NONE;
        int n = 0, first = NONE;
        for (int c = 0; c < p(); c += width) if (isFree(slots.get(slot), c, width)) {
            if (n == 0) first = c;
            n++;
        }
        return what == 0 ? n : first;
    }

    int cell(int slot, int column) {
        if (slot < 0 || slot >= slots.size()) return -2;
        if (column < 0 || column >= p()) return -3;
        for (Job j : slots.get(slot).jobs) if (meets(j, column, 1)) return j.number;
        return NONE;
    }

    int load(int column) { return column < 0 || column >= p() ? NONE : loadAt(column); }

    int of(int job, int what) {
        Job j = get(job);
        if (j == null || what < 0 || what > 18) return NONE;
        return new int[] {j.size, j.work, j.user, j.after, j.state, j.left, j.kept, at(j), j.column, j.width,
            j.ran, j.extra, j.stopped, j.came, j.first, j.end, j.restarts, j.passed, j.moves}[what];
    }

    int user(int user, int what) {
        if (user < 0 || user > 5 || what < 0 || what > 5) return -100000000;
        int alive = 0, done = 0, waited = 0, shares = 0;
        long all = 0;
        for (Job j : jobs) if (j.user == user) {
            if (j.state <= 2) alive++;
            if (j.state == 3) done++;
            if (j.first != NONE) waited += j.first - j.came;
        }
        for (int u = 0; u < 6; u++) { all += used[u]; shares += share[u]; }
        int owed = (int) (all * share[user] / shares) - used[user];
        return new int[] {share[user], used[user], alive, done, waited, owed}[what];
    }

    int slot(int slot, int what) {
        if (slot < 0 || slot >= slots.size() || what < 0 || what > 5) return NONE;
        Slot s = slots.get(slot);
        int blocks = s.jobs.stream().mapToInt(j -> j.width).sum();
        int cells = s.jobs.stream().mapToInt(j -> j.size).sum();
        return new int[] {s.jobs.size(), weight(s), (int) (s.pass - leastPass()), s.turns, blocks, cells}[what];
    }

    int queue(int i) { return i < 0 || i >= waiting.size() ? NONE : theQueue().get(i).number; }

    int lends(int slot, int i) {
        if (slot < 0 || slot >= slots.size()) return NONE;
        List<Job> l = lentBy(slots.get(slot));
        if (i == NONE) return l.size();
        return i < 0 || i >= l.size() ? NONE : l.get(i).number;
    }

    int would(int n, int what) {
        if (n < 1 || n > 100 || what < 0 || what > 4) return NONE;
        NaiveMatrix t = copy();
        int done = t.quantum(n);
        int idle = 0;
        for (int k = 1; k <= 3; k++) idle += t.counts[k] - counts[k];
        return new int[] {done, t.counts[0] - counts[0], idle, t.slots.size(), t.waiting.size()}[what];
    }

    int when(int job) {
        Job j = get(job);
        if (j == null || j.state == 4) return NONE;
        if (j.state == 3) return j.end;
        NaiveMatrix t = copy();
        t.quantum(100);
        t.quantum(100);
        t.quantum(100);
        return t.jobs.get(job).end;
    }

    static int back(List<int[]> l, int i, int what, int values) {
        if (i < 0 || i >= 60 || i >= l.size() || what < 0 || what >= values) return NONE;
        return l.get(l.size() - 1 - i)[what];
    }

    int log(int i, int what) { return back(log, i, what, 5); }

    int went(int i, int what) { return back(went, i, what, 4); }

    int count(int what) { return what < 0 || what > 10 ? NONE : counts[what]; }

    boolean image(boolean taken) {
        if (taken) image = copy();
        else if (image != null) take(image);
        return image != null;
    }

    int look(int what) {
        if (what >= 0 && what <= 9) return told[what];
        int[] states = new int[5];
        for (Job j : jobs) states[j.state]++;
        int first = 0, dead = 0;
        while (loadAt(first) < greatest()) first++;
        for (int c = 0; c < p(); c++) if (this.dead[c]) dead++;
        int[] a = {time, jobs.size(), arrivals.size(), slots.size(), states[1], states[0], states[2], states[3],
            states[4], greatest(), first, dead, log.size()};
        return what >= 10 && what <= 22 ? a[what - 10] : -100000000;
    }
}
