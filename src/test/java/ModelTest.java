import java.util.ArrayList;
import java.util.List;
import java.util.Random;

/** Runs of random calls (seeds are fixed) on GangMatrix and on the naive model: all answers must agree. */
public final class ModelTest {
    private static final int RUNS = 1500;
    private final Random random;
    private final GangMatrix x = new GangMatrix();
    private final NaiveMatrix n = new NaiveMatrix();
    private final List<String> calls = new ArrayList<>();
    private boolean wrong;
    /** How busy, how long and how wide a run's jobs are. */
    private final int longest, widest, mix;

    private ModelTest(long seed) {
        random = new Random(seed);
        int[] works = {2, 5, 12, 40, 400, 9999};
        longest = works[random.nextInt(works.length)];
        widest = 1 << random.nextInt(6);
        mix = random.nextInt(4);
    }

    public static void main(String[] args) {
        int wrong = 0;
        for (int seed = 1; seed <= RUNS; seed++) {
            ModelTest t = new ModelTest(seed);
            t.run(seed);
            if (t.wrong) {
                wrong++;
            }
        }
        System.out.println(RUNS + " random runs, " + wrong + " wrong");
        if (wrong != 0) System.exit(1);
    }

    private void due(String call, long got, long want) {
        calls.add(call + " -> " + got);
        if (got != want && !wrong) {
            wrong = true;
            for (String c : calls) System.out.println("  " + c);
            System.out.println("wrong: " + call + " answered " + got + ", due is " + want);
        }
    }

    private int in(int low, int high) {
        return low + random.nextInt(high - low + 1);
    }

    /** A number of a job, now and then one that is none. */
    private int someJob() {
        return in(0, 20) == 0 ? in(-2, 61) : in(0, Math.max(0, n.jobs.size() - 1));
    }

    private int someSize() {
        return in(0, 25) == 0 ? in(-1, 34) : Math.min(in(1, widest), n.p());
    }

    private int someUser() {
        return in(0, 30) == 0 ? in(-1, 7) : in(0, 5);
    }

    private static long of(boolean b) {
        return b ? 1 : 0;
    }

    private void run(int seed) {
        if (in(0, 2) > 0) {
            int p = 4 << in(0, 3);
            due("set(0, " + p + ")", of(x.set(0, p)), of(n.set(0, p)));
        }
        if (in(0, 1) == 0) {
            due("set(9, 0)", of(x.set(9, 0)), of(n.set(9, 0)));
        }
        for (int k = in(0, 6); k > 0; k--) set();
        for (int i = 0; i < 150 && !wrong; i++) {
            change();
            if (in(0, 2) == 0) look();
            if (i % 10 == 0) lookAtAll();
        }
        lookAtAll();
    }

    private void set() {
        int what = in(0, 4) == 0 ? 1 : in(0, 9);
        int[] high = {33, 8, 2, 1, 9, 99, 9, 99, 1, 1};
        int v = in(0, 15) == 0 ? in(-1, 101) : what == 5 || what == 7 ? in(0, 6) : in(0, high[what]);
        due("set(" + what + ", " + v + ")", of(x.set(what, v)), of(n.set(what, v)));
    }

    private void change() {
        int kind = in(0, 99);
        int busy = mix == 0 ? 10 : mix == 1 ? 25 : mix == 2 ? 35 : 20;
        if (kind < busy) {
            int s = someSize(), w = in(1, longest), u = someUser(), a = in(0, 3) == 0 ? someJob() : -1;
            if (in(0, 60) == 0) w = in(-1, 10001);
            due("job(" + s + ", " + w + ", " + u + ", " + a + ")", x.job(s, w, u, a), n.job(s, w, u, a));
        } else if (kind < busy + 6) {
            int t = n.time + in(in(0, 9) == 0 ? -1 : 0, 12), s = someSize(), w = in(1, longest), u = someUser();
            due("later(" + t + ", " + s + ", " + w + ", " + u + ")", x.later(t, s, w, u), n.later(t, s, w, u));
        } else if (kind < 60) {
            int q = in(0, 40) == 0 ? in(-1, 102) : in(1, in(0, 5) == 0 ? 30 : 3);
            due("quantum(" + q + ")", x.quantum(q), n.quantum(q));
        } else {
            rare(in(0, 15));
        }
    }

    private void rare(int kind) {
        int j = someJob();
        int c = in(0, 15) == 0 ? in(-2, 33) : in(0, n.p() - 1);
        switch (kind) {
            case 0: due("kill(" + j + ")", x.kill(j), n.kill(j)); break;
            case 1: due("down(" + c + ")", of(x.down(c)), of(n.down(c))); break;
            case 2: case 3: up(); break;
            case 4: due("unify()", x.unify(), n.unify()); break;
            case 5: due("repack()", x.repack(), n.repack()); break;
            case 6: case 7: case 8:
                if (n.getPlaced(j) != null && in(0, 4) > 0) c -= c % n.getPlaced(j).width;
                due("move(" + j + ", " + c + ")", of(x.move(j, c)), of(n.move(j, c)));
                break;
            case 9: case 10: due("migrate(" + j + ")", of(x.migrate(j)), of(n.migrate(j))); break;
            case 11: due("relay()", of(x.relay()), of(n.relay())); break;
            case 12: case 13:
                if (!n.waiting.isEmpty() && in(0, 3) > 0) j = n.waiting.get(in(0, n.waiting.size() - 1)).number;
                due("urge(" + j + ")", of(x.urge(j)), of(n.urge(j)));
                break;
            case 14: picture(); break;
            default: tell(); break;
        }
    }

    private void up() {
        int c = in(0, n.p());
        for (int k = 0; k < n.p() && in(0, 9) > 0 && (c >= n.p() || !n.dead[c]); k++) c = in(0, n.p());
        due("up(" + c + ")", of(x.up(c)), of(n.up(c)));
    }

    private void picture() {
        boolean taken = in(0, 2) > 0;
        due("image(" + taken + ")", of(x.image(taken)), of(n.image(taken)));
    }

    private void tell() {
        if (in(0, 1) == 0) {
            set();
            return;
        }
        int u = someUser(), v = in(0, 10);
        due("share(" + u + ", " + v + ")", of(x.share(u, v)), of(n.share(u, v)));
    }

    private void look() {
        int j = someJob(), c = in(-1, n.p()), s = in(-1, n.slots.size()), k = in(1, 12);
        for (int w = -1; w <= 5; w++) due("weigh(" + j + ", " + w + ")", x.weigh(j, w), n.weigh(j, w));
        for (int w = -1; w <= 4; w++) due("pack(" + w + ")", x.pack(w), n.pack(w));
        if (!n.waiting.isEmpty() && in(0, 5) > 0) j = n.waiting.get(0).number;
        for (int w = -1; w <= 4; w++) due("urged(" + j + ", " + w + ")", x.urged(j, w), n.urged(j, w));
        due("thin(1)", x.thin(1), n.thin(1));
        if (n.p() <= 8 || in(0, 9) == 0) due("thin(2)", x.thin(2), n.thin(2));
        int size = in(0, n.p() + 1);
        for (int w = -1; w <= 2; w++) due("where(" + size + ", " + w + ")", x.where(size, w), n.where(size, w));
        for (int i = -2; i <= 6; i++) due("lends(" + s + ", " + i + ")", x.lends(s, i), n.lends(s, i));
        if (in(0, 5) == 0) {
            for (int w = -1; w <= 5; w++) due("would(" + k + ", " + w + ")", x.would(k, w), n.would(k, w));
            due("when(" + j + ")", x.when(j), n.when(j));
        }
        due("load(" + c + ")", x.load(c), n.load(c));
    }

    private void lookAtAll() {
        for (int w = -1; w <= 23; w++) due("look(" + w + ")", x.look(w), n.look(w));
        for (int w = -1; w <= 11; w++) due("count(" + w + ")", x.count(w), n.count(w));
        for (int j = -1; j <= n.jobs.size(); j++)
            for (int w = -1; w <= 19; w++) due("of(" + j + ", " + w + ")", x.of(j, w), n.of(j, w));
        for (int u = -1; u <= 6; u++)
            for (int w = -1; w <= 6; w++) due("user(" + u + ", " + w + ")", x.user(u, w), n.user(u, w));
        for (int s = -1; s <= n.slots.size(); s++) {
            for (int w = -1; w <= 6; w++) due("slot(" + s + ", " + w + ")", x.slot(s, w), n.slot(s, w));
            for (int c = -1; c <= n.p(); c++) due("cell(" + s + ", " + c + ")", x.cell(s, c), n.cell(s, c));
            for (int v = 0; v <= 64; v++) for (int w = -1; w <= 2; w++)
                due("free(" + s + ", " + v + ", " + w + ")", x.free(s, v, w), n.free(s, v, w));
        }
        for (int i = -1; i <= n.waiting.size(); i++) due("queue(" + i + ")", x.queue(i), n.queue(i));
        for (int i = -1; i <= 61; i++) {
            for (int w = -1; w <= 5; w++) due("log(" + i + ", " + w + ")", x.log(i, w), n.log(i, w));
            for (int w = -1; w <= 4; w++) due("went(" + i + ", " + w + ")", x.went(i, w), n.went(i, w));
        }
    }
}
