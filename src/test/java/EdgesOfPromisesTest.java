/** Edges that promises 1 to 35 name themselves: what is too small or too large, none such, another what, refused. */
public final class EdgesOfPromisesTest {
    public static void main(String[] args) {
        runAll();
        Edges.end("edges of promises 1 to 35");
    }

    static void runAll() {
        newObject();
        setFalse();
        shareFalse();
        jobNone();
        jobAfterKilled();
        laterTimes();
        laterNone();
        laterHowMany();
        killHowMany();
        killNone();
        quantumN();
        quantumHowMany();
        downFalse();
        upFalse();
        unifyHowMany();
        repackHowMany();
        moveFalse();
        migrateFalse();
        weighNone();
        packNone();
        relayFalse();
        urgeFalse();
        urgedNone();
        thinNone();
        whereNewSlot();
        whereNone();
        freeWidths();
        freeNone();
        cellNone();
        loadNone();
        ofNone();
        userNone();
        userLeft();
        userWaited();
        userOwed();
        slotNone();
        slotJobs();
        slotPass();
        slotColumns();
        queueNone();
        lendsNone();
        lendsAlternatesAsOne();
        wouldNone();
        wouldHowMany();
        wouldSorts();
        whenNone();
        logNone();
        wentLatestSixty();
        wentNone();
        countNone();
        countOfAll();
        imageNone();
        lookNone();
        lookGreatestLoad();
        lookLines();
    }

    private static void newObject() {
        Edges.sentence("1: Sixteen COLUMNS, no JOB");
        GangMatrix x = new GangMatrix();
        Edges.due("COLUMNS", x.look(0), 16);
        for (int what = 10; what <= 22; what++) Edges.due("look(" + what + ")", x.look(what), 0);
        for (int what = 0; what <= 18; what++) Edges.due("of(0, " + what + ")", x.of(0, what), Edges.NONE);
        for (int what = 0; what <= 10; what++) Edges.due("count(" + what + ")", x.count(what), 0);
        Edges.due("no SLOT", x.cell(0, 0), -2);
        Edges.due("nobody waits", x.queue(0), Edges.NONE);
        Edges.due("no line", x.log(0, 0), Edges.NONE);
        Edges.due("no QUANTUM", x.went(0, 1), Edges.NONE);
        Edges.due("the first number", x.job(1, 1, 0, Edges.NONE), 0);
    }

    private static void setFalse() {
        Edges.sentence("2: set: false if one can't be, or another what");
        GangMatrix x = Edges.restless();
        int[] least = {4, 1, 0, 0, 0, 0, 0, 0, 0, 0};
        int[] most = {32, 8, 2, 1, 9, 99, 9, 99, 1, 1};
        for (int what = 0; what < 10; what++) {
            Edges.no("too small", x.set(what, least[what] - 1));
            Edges.no("too large", x.set(what, most[what] + 1));
        }
        for (int what : new int[] {-1, 10, Edges.LOWEST, Edges.HIGHEST}) {
            Edges.no("another what: " + what, x.set(what, 1));
        }
        Edges.same("what is refused", x, Edges.restless());
    }

    private static void shareFalse() {
        Edges.sentence("3: share: false if one can't be");
        GangMatrix x = Edges.restless();
        for (int user : new int[] {-1, 6, Edges.LOWEST, Edges.HIGHEST}) Edges.no("user " + user, x.share(user, 1));
        for (int v : new int[] {0, -1, 10, Edges.LOWEST, Edges.HIGHEST}) Edges.no("share " + v, x.share(0, v));
        Edges.same("what is refused", x, Edges.restless());
    }

    private static void jobNone() {
        Edges.sentence("4: job: NONE if one can't be, .. or there are 60");
        GangMatrix x = Edges.restless();
        int[][] bad = {{0, 1, 0, -1}, {9, 1, 0, -1}, {Edges.LOWEST, 1, 0, -1}, {Edges.HIGHEST, 1, 0, -1}, {1, 0, 0, -1},
            {1, 10000, 0, -1}, {1, Edges.LOWEST, 0, -1}, {1, Edges.HIGHEST, 0, -1}, {1, 1, -1, -1}, {1, 1, 6, -1},
            {1, 1, 0, -2}, {1, 1, 0, 5}, {1, 1, 0, 60}, {1, 1, 0, Edges.LOWEST}, {1, 1, 0, Edges.HIGHEST}};
        for (int[] b : bad) Edges.due("a job that can't be", x.job(b[0], b[1], b[2], b[3]), Edges.NONE);
        Edges.same("what is refused", x, Edges.restless());
        for (int j = 5; j < 60; j++) Edges.due("its number", x.job(8, 1, 0, Edges.NONE), j);
        Edges.due("there are 60", x.job(8, 1, 0, Edges.NONE), Edges.NONE);
        Edges.due("lines", x.look(22), 5 + 55 + 4);
    }

    private static void jobAfterKilled() {
        Edges.sentence("4: job: NONE if .. its AFTER is KILLED");
        GangMatrix x = Edges.with(4);
        Edges.job(x, 0, 1, 9, 0);
        Edges.held(x, 1, 1, 9, 0);
        Edges.due("killed", x.kill(1), 1);
        Edges.due("behind it", x.job(1, 1, 0, 1), Edges.NONE);
        Edges.held(x, 2, 1, 9, 0);
        Edges.due("killed", x.kill(0), 2);
        for (int j = 0; j <= 2; j++) Edges.due("behind " + j, x.job(1, 1, 0, j), Edges.NONE);
        Edges.due("JOBS", x.look(11), 3);
    }

    private static void laterTimes() {
        Edges.sentence("5: later: An ARRIVAL at a TIME (now at least, 99999 at most)");
        GangMatrix x = Edges.with(4);
        Edges.only("at", t -> x.later(t, 1, 1, 0), 0, 99999, Edges.NONE);
        x.quantum(100);
        Edges.only("at", t -> x.later(t, 1, 1, 0), 100, 99999, Edges.NONE);
        Edges.due("yet to come", x.look(12), 3);
        x.quantum(1);
        Edges.due("it came", x.of(1, Edges.CAME), 100);
    }

    private static void laterNone() {
        Edges.sentence("5: later: NONE if one can't be, or there are 60");
        GangMatrix x = Edges.restless();
        int[][] bad = {{-1, 1, 1, 0}, {100000, 1, 1, 0}, {0, 0, 1, 0}, {0, 9, 1, 0}, {0, 1, 0, 0}, {0, 1, 10000, 0},
            {0, 1, 1, -1}, {0, 1, 1, 6}, {0, Edges.HIGHEST, 1, 0}, {0, 1, Edges.LOWEST, 0}};
        for (int[] b : bad) Edges.due("one that can't be", x.later(b[0], b[1], b[2], b[3]), Edges.NONE);
        Edges.same("what is refused", x, Edges.restless());
        for (int n = 1; n <= 55; n++) Edges.due("yet to come", x.later(5, 1, 1, 0), n);
        Edges.due("there are 60", x.later(5, 1, 1, 0), Edges.NONE);
        Edges.due("yet to come", x.look(12), 55);
    }

    private static void laterHowMany() {
        Edges.sentence("5: later: how many are yet to come");
        GangMatrix x = Edges.with(4);
        Edges.due("one", x.later(0, 1, 1, 0), 1);
        Edges.due("two", x.later(9, 1, 1, 0), 2);
        x.quantum(1);
        Edges.due("one is here", x.look(12), 1);
        Edges.due("two", x.later(1, 1, 1, 0), 2);
        x.quantum(10);
        Edges.due("none", x.look(12), 0);
        Edges.due("one", x.later(99, 1, 1, 0), 1);
    }

    private static void killHowMany() {
        Edges.sentence("6: kill: How many are KILLED by it");
        GangMatrix x = Edges.with(4);
        Edges.job(x, 0, 1, 1, 0);
        Edges.held(x, 1, 1, 9, 0);
        Edges.held(x, 2, 1, 9, 1);
        Edges.held(x, 3, 1, 9, 1);
        Edges.due("one of them", x.kill(3), 1);
        Edges.due("0 is done, 1 is not HELD any more", x.quantum(1), 1);
        Edges.due("with the one HELD by it", x.kill(1), 2);
        Edges.due("KILLED", x.look(18), 3);
    }

    private static void killNone() {
        Edges.sentence("6: kill: NONE if it can't be");
        GangMatrix x = Edges.restless();
        for (int j : new int[] {-1, 5, 59, 60, Edges.LOWEST, Edges.HIGHEST}) Edges.due("none such", x.kill(j), Edges.NONE);
        Edges.same("what is refused", x, Edges.restless());
    }

    private static void quantumN() {
        Edges.sentence("7: quantum: n QUANTA (1 .. 100) .. NONE if n can't be");
        GangMatrix x = Edges.restless();
        for (int n : new int[] {0, -1, 101, Edges.LOWEST, Edges.HIGHEST}) Edges.due("n " + n, x.quantum(n), Edges.NONE);
        Edges.same("what is refused", x, Edges.restless());
        Edges.due("one", x.quantum(1), 0);
        Edges.due("TIME", x.look(10), 1);
        Edges.due("a hundred", x.quantum(100), 5);
        Edges.due("TIME", x.look(10), 101);
    }

    private static void quantumHowMany() {
        Edges.sentence("7: quantum: how many JOBS are DONE by them");
        GangMatrix x = Edges.with(4);
        Edges.job(x, 0, 1, 1, 0);
        Edges.job(x, 1, 1, 2, 0);
        Edges.job(x, 2, 1, 3, 0);
        Edges.job(x, 3, 1, 9, 0);
        Edges.due("killed", x.kill(3), 1);
        Edges.due("two", x.quantum(2), 2);
        Edges.due("one", x.quantum(1), 1);
        Edges.due("none", x.quantum(1), 0);
    }

    private static void downFalse() {
        Edges.sentence("8: down: false if it is, or there is none such");
        GangMatrix x = Edges.restless();
        for (int c : new int[] {-1, 8, 31, 32, Edges.LOWEST, Edges.HIGHEST}) Edges.no("none such", x.down(c));
        Edges.same("what is refused", x, Edges.restless());
        x = Edges.restless();
        Edges.yes("down", x.down(7));
        Edges.no("it is", x.down(7));
        Edges.queue(x, 1, 4);
        Edges.due("DOWN", x.look(21), 1);
    }

    private static void upFalse() {
        Edges.sentence("9: up: false if it is not (DOWN), or there is none such");
        GangMatrix x = Edges.restless();
        for (int c : new int[] {-1, 8, 31, 32, Edges.LOWEST, Edges.HIGHEST}) Edges.no("none such", x.up(c));
        for (int c = 0; c < 8; c++) Edges.no("it is not", x.up(c));
        Edges.same("what is refused", x, Edges.restless());
        x = Edges.with(8);
        Edges.yes("down", x.down(7));
        Edges.no("that one is not", x.up(6));
        Edges.yes("up", x.up(7));
        Edges.no("it is not any more", x.up(7));
        Edges.due("DOWN", x.look(21), 0);
    }

    private static void unifyHowMany() {
        Edges.sentence("10: unify: how many SLOTS go by it");
        GangMatrix x = Edges.with(4);
        x.set(Edges.MOST, 2);
        Edges.due("none", x.unify(), 0);
        for (int j = 0; j < 4; j++) Edges.job(x, j, 2, 9, 0);
        Edges.job(x, 4, 4, 9, 0);
        Edges.due("none", x.unify(), 0);
        Edges.due("killed", x.kill(0) + x.kill(3), 2);
        Edges.due("one, though a new one comes behind it", x.unify(), 1);
        Edges.due("SLOTS", x.look(13), 2);
        Edges.at(x, 4, 1, 0);
    }

    private static void repackHowMany() {
        Edges.sentence("11: repack: how many SLOTS there are by it");
        GangMatrix x = Edges.with(4);
        x.set(Edges.MOST, 2);
        Edges.due("none", x.repack(), 0);
        for (int j = 0; j < 4; j++) Edges.job(x, j, 2, 9, 0);
        Edges.job(x, 4, 4, 9, 0);
        Edges.due("two", x.repack(), 2);
        Edges.due("killed", x.kill(0) + x.kill(3), 2);
        Edges.due("one, though a new one comes behind it", x.repack(), 1);
        Edges.due("SLOTS", x.look(13), 2);
        Edges.at(x, 4, 1, 0);
    }

    /** Job 0 DONE, 1 PLACED, 2 WAITING, 3 HELD, 4 KILLED, in a slot that is full. */
    private static GangMatrix states() {
        GangMatrix x = Edges.with(4);
        x.set(Edges.MOST, 1);
        x.set(Edges.STOP, 0);
        Edges.job(x, 0, 1, 1, 0);
        x.quantum(1);
        Edges.job(x, 1, 1, 9, 1);
        Edges.job(x, 2, 4, 9, 2);
        Edges.held(x, 3, 1, 9, 2);
        Edges.job(x, 4, 1, 9, 0);
        Edges.due("killed", x.kill(4), 1);
        int[] state = {Edges.DONE, Edges.PLACED, Edges.WAITING, Edges.HELD, Edges.KILLED};
        for (int j = 0; j < 5; j++) Edges.state(x, j, state[j]);
        return x;
    }

    private static final int[] NOT_PLACED = {0, 2, 3, 4, 5, 60, -1, Edges.LOWEST, Edges.HIGHEST};

    private static void moveFalse() {
        Edges.sentence("12: move: false if it can't be");
        GangMatrix x = states();
        for (int j : NOT_PLACED) Edges.no("of " + j, x.move(j, 1));
        for (int c : new int[] {0, -1, 4, Edges.LOWEST, Edges.HIGHEST}) Edges.no("to " + c, x.move(1, c));
        Edges.same("what is refused", x, states());
        Edges.yes("it can be", x.move(1, 3));
        Edges.at(x, 1, 0, 3);
    }

    private static void migrateFalse() {
        Edges.sentence("13: migrate: false if it is refused, or is not PLACED");
        GangMatrix x = states();
        for (int j : NOT_PLACED) Edges.no("of " + j, x.migrate(j));
        Edges.no("GAIN is not above COST", x.migrate(1));
        Edges.same("what is refused", x, states());
    }

    private static void weighNone() {
        Edges.sentence("14: weigh: NONE - 999999999 if there is no BEST, it is not PLACED, or another what");
        GangMatrix x = states();
        for (int j : NOT_PLACED) for (int k = 0; k < 5; k++) Edges.due("of " + j, x.weigh(j, k), Edges.NO_WEIGHT);
        Edges.only("what", k -> x.weigh(1, k), 0, 4, Edges.NO_WEIGHT);
        for (int c = 1; c < 4; c++) Edges.yes("down", x.down(c));
        for (int k = 0; k < 5; k++) Edges.due("no BEST", x.weigh(1, k), Edges.NO_WEIGHT);
    }

    private static void packNone() {
        Edges.sentence("15: pack: NONE - 999999999 for another what");
        GangMatrix x = states();
        Edges.only("what", x::pack, 0, 3, Edges.NO_WEIGHT);
        Edges.due("the greatest LOAD then", x.pack(0), 1);
        Edges.only("what of a new object", new GangMatrix()::pack, 0, 3, Edges.NO_WEIGHT);
    }

    private static void relayFalse() {
        Edges.sentence("16: relay: false if it is refused");
        GangMatrix x = states();
        Edges.no("nobody has another COLUMN", x.relay());
        Edges.same("what is refused", x, states());
        Edges.no("no JOB at all", new GangMatrix().relay());
    }

    private static void urgeFalse() {
        Edges.sentence("17: urge: false if it is refused, or is not WAITING");
        GangMatrix x = states();
        for (int j : new int[] {0, 1, 3, 4, 5, 60, -1, Edges.LOWEST, Edges.HIGHEST}) Edges.no("of " + j, x.urge(j));
        Edges.same("what is refused", x, states());
        Edges.yes("down", x.down(3));
        Edges.no("no BLOCK", x.urge(2));
        Edges.yes("up", x.up(3));
        Edges.yes("urge", x.urge(2));
        Edges.at(x, 2, 0, 0);
    }

    private static void urgedNone() {
        Edges.sentence("18: urged: NONE if it would be refused, or another what");
        GangMatrix x = states();
        for (int j : new int[] {0, 1, 3, 4, 5, 60, -1, Edges.LOWEST, Edges.HIGHEST}) {
            for (int k = 0; k < 4; k++) Edges.due("of " + j, x.urged(j, k), Edges.NONE);
        }
        Edges.only("what", k -> x.urged(2, k), 0, 3, Edges.NONE);
        Edges.due("how many", x.urged(2, 2), 1);
        Edges.yes("down", x.down(3));
        for (int k = 0; k < 4; k++) Edges.due("no BLOCK", x.urged(2, k), Edges.NONE);
    }

    private static void thinNone() {
        Edges.sentence("19: thin: by up to k (0 .. 2) .. NONE if k can't be, or k is 2 and more than eight are PLACED");
        GangMatrix x = Edges.with(16);
        Edges.only("k of none", x::thin, 0, 2, Edges.NONE);
        for (int j = 0; j < 8; j++) Edges.job(x, j, 1, 9, 0);
        Edges.yes("down", x.down(15));
        Edges.job(x, 8, 16, 9, 0);
        Edges.state(x, 8, Edges.WAITING);
        Edges.only("k of eight", x::thin, 0, 2, Edges.NONE);
        Edges.due("killed", x.kill(8), 1);
        Edges.job(x, 9, 1, 9, 0);
        Edges.due("nine by none", x.thin(0), 1);
        Edges.due("nine by one", x.thin(1), 1);
        Edges.due("nine by two", x.thin(2), Edges.NONE);
        Edges.due("nine by three", x.thin(3), Edges.NONE);
        Edges.due("killed", x.kill(0), 1);
        Edges.due("eight by two", x.thin(2), 1);
    }

    private static void whereNewSlot() {
        Edges.sentence("20: where: what 0 SLOT (a new one: how many there are), 1 COLUMN");
        GangMatrix x = Edges.with(4);
        x.set(Edges.MOST, 8);
        for (int j = 0; j < 8; j++) {
            Edges.due("SLOT", x.where(4, 0), j);
            Edges.due("COLUMN", x.where(4, 1), 0);
            Edges.job(x, j, 4, 9, 0);
            Edges.at(x, j, j, 0);
        }
        Edges.due("no SLOT", x.where(4, 0), Edges.NONE);
        Edges.due("no SLOT", x.where(4, 1), Edges.NONE);
    }

    private static void whereNone() {
        Edges.sentence("20: where: NONE if it can't be, SIZE can't be, or another what");
        for (int p : Edges.ALL_P) {
            GangMatrix x = Edges.with(p);
            Edges.only("size", size -> x.where(size, 0), 1, p, Edges.NONE);
            Edges.only("size", size -> x.where(size, 1), 1, p, Edges.NONE);
            Edges.only("what", what -> x.where(1, what), 0, 1, Edges.NONE);
            Edges.yes("down", x.down(p - 1));
            Edges.due("it can't be", x.where(p, 0), Edges.NONE);
            Edges.due("it can't be", x.where(p, 1), Edges.NONE);
        }
    }

    private static void freeWidths() {
        Edges.sentence("21: free: of a WIDTH (a power of two, p at most)");
        for (int p : Edges.ALL_P) {
            GangMatrix x = Edges.with(p);
            Edges.job(x, 0, 1, 9, 0);
            for (int width = -1; width <= 65; width++) {
                boolean is = width == 1 || width == 2 || width == 4 || width == 8 || width == 16 || width == 32;
                int want = is && width <= p ? p / width - 1 : Edges.NONE;
                Edges.due("width " + width + " of " + p, x.free(0, width, 0), want);
                Edges.due("its first", x.free(0, width, 1), want > 0 ? width : Edges.NONE);
            }
            for (int width : new int[] {Edges.LOWEST, 1 << 30, Edges.HIGHEST}) {
                Edges.due("width " + width, x.free(0, width, 0), Edges.NONE);
            }
        }
    }

    private static void freeNone() {
        Edges.sentence("21: free: NONE if there is none such, or another what");
        GangMatrix x = Edges.with(4);
        Edges.due("no SLOT", x.free(0, 1, 0), Edges.NONE);
        Edges.job(x, 0, 1, 9, 0);
        Edges.job(x, 1, 4, 9, 0);
        Edges.only("slot", s -> x.free(s, 1, 0), 0, 1, Edges.NONE);
        Edges.only("what", k -> x.free(0, 1, k), 0, 1, Edges.NONE);
        Edges.due("none is FREE: how many", x.free(1, 1, 0), 0);
        Edges.due("none is FREE: the first", x.free(1, 1, 1), Edges.NONE);
    }

    private static void cellNone() {
        Edges.sentence("22: cell: (NONE). -2: no such SLOT; else -3: no such COLUMN");
        GangMatrix x = Edges.with(4);
        Edges.due("no SLOT, whatever the COLUMN", x.cell(0, 9), -2);
        Edges.job(x, 0, 3, 9, 0);
        Edges.job(x, 1, 1, 9, 0);
        Edges.only("slot", s -> x.cell(s, 0), 0, 1, -2);
        Edges.only("column", c -> x.cell(1, c), 0, 3, -3);
        Edges.due("neither SLOT nor COLUMN", x.cell(2, 4), -2);
        Edges.due("neither SLOT nor COLUMN", x.cell(-1, -1), -2);
        int[][] want = {{0, 0, 0, 0}, {1, -1, -1, -1}};
        for (int s = 0; s < 2; s++) for (int c = 0; c < 4; c++) Edges.due("cell", x.cell(s, c), want[s][c]);
    }

    private static void loadNone() {
        Edges.sentence("23: load: NONE if there is none such");
        for (int p : Edges.ALL_P) {
            GangMatrix x = Edges.with(p);
            Edges.job(x, 0, p, 9, 0);
            Edges.only("column", x::load, 0, p - 1, Edges.NONE);
            Edges.due("LOAD of the last", x.load(p - 1), 1);
        }
    }

    private static void ofNone() {
        Edges.sentence("24: of: NONE if there is none such, or another what");
        GangMatrix x = states();
        for (int what = 0; what <= 18; what++) {
            for (int j : new int[] {-1, 5, 59, 60, Edges.LOWEST, Edges.HIGHEST}) {
                Edges.due("of(" + j + ", " + what + ")", x.of(j, what), Edges.NONE);
            }
        }
        for (int j = 0; j < 5; j++) Edges.only("what", what(x, j), 0, 18, Edges.NONE);
        int[] none = {Edges.NONE, Edges.NONE, Edges.NONE, 2, Edges.NONE};
        for (int j = 0; j < 5; j++) {
            Edges.due("AFTER", x.of(j, 3), none[j]);
            Edges.due("SLOT", x.of(j, Edges.SLOT), j == 1 ? 0 : Edges.NONE);
            Edges.due("COLUMN", x.of(j, Edges.COLUMN), j == 1 ? 0 : Edges.NONE);
            Edges.due("first PLACED", x.of(j, Edges.FIRST) == Edges.NONE ? 1 : 0, j < 2 ? 0 : 1);
            Edges.due("END", x.of(j, Edges.END), j == 0 || j == 4 ? 1 : Edges.NONE);
        }
    }

    private static java.util.function.IntUnaryOperator what(GangMatrix x, int job) {
        return what -> x.of(job, what);
    }

    private static void userNone() {
        Edges.sentence("25: user: NONE - 99999999 if there is none such, or another what");
        GangMatrix x = states();
        for (int what = 0; what <= 5; what++) {
            for (int u : new int[] {-1, 6, Edges.LOWEST, Edges.HIGHEST}) {
                Edges.due("user(" + u + ", " + what + ")", x.user(u, what), Edges.NO_SUCH);
            }
        }
        for (int u = 0; u < 6; u++) {
            for (int what : new int[] {-1, 6, Edges.LOWEST, Edges.HIGHEST}) {
                Edges.due("user(" + u + ", " + what + ")", x.user(u, what), Edges.NO_SUCH);
            }
        }
    }

    private static void userLeft() {
        Edges.sentence("25: user: 2 how many of its JOBS are HELD, WAITING or PLACED, 3 how many are DONE");
        GangMatrix x = states();
        // user 0: DONE, HELD, KILLED; 1: PLACED; 2: WAITING
        int[] left = {1, 1, 1, 0, 0, 0};
        int[] done = {1, 0, 0, 0, 0, 0};
        for (int u = 0; u < 6; u++) {
            Edges.due("left of user " + u, x.user(u, 2), left[u]);
            Edges.due("DONE of user " + u, x.user(u, 3), done[u]);
        }
        x.later(50, 1, 1, 5);
        Edges.due("an ARRIVAL is no JOB yet", x.user(5, 2), 0);
    }

    private static void userWaited() {
        Edges.sentence("25: user: 4 how long those that were PLACED once had to wait for it (since they came), together");
        GangMatrix x = Edges.with(4);
        x.set(Edges.MOST, 1);
        Edges.job(x, 0, 4, 3, 0);
        Edges.held(x, 1, 4, 2, 0);
        Edges.job(x, 2, 4, 9, 0);
        Edges.due("none had to", x.user(0, 4), 0);
        x.quantum(2);
        Edges.due("those who wait are not PLACED yet", x.user(0, 4), 0);
        x.quantum(1);
        Edges.at(x, 2, 0, 0);
        Edges.due("2 had to wait for 3", x.user(0, 4), 3);
        Edges.due("killed", x.kill(2), 1);
        Edges.at(x, 1, 0, 0);
        Edges.due("1 since it came, and who is KILLED too", x.user(0, 4), 6);
        x.quantum(1);
        Edges.yes("down", x.down(0));
        x.quantum(5);
        Edges.yes("up", x.up(0));
        Edges.at(x, 1, 0, 0);
        Edges.due("the first time counts", x.user(0, 4), 6);
        Edges.due("another user", x.user(1, 4), 0);
        x = Edges.with(4);
        x.quantum(5);
        Edges.yes("down", x.down(0));
        Edges.job(x, 0, 4, 9, 2);
        Edges.job(x, 1, 4, 9, 2);
        x.quantum(2);
        Edges.yes("up", x.up(0));
        Edges.due("both since 5", x.user(2, 4), 4);
    }

    private static void userOwed() {
        Edges.sentence("25: user: 5 OWED: USED of all USERS times its SHARE by the SHARES of all six, cut, less its USED");
        GangMatrix x = Edges.with(4);
        for (int u = 0; u < 6; u++) Edges.due("nothing USED", x.user(u, 5), 0);
        Edges.job(x, 0, 1, 5, 0);
        Edges.job(x, 1, 2, 3, 1);
        x.quantum(5);
        // USED 5 and 6
        int[] owed = {1 - 5, 1 - 6, 1, 1, 1, 1};
        for (int u = 0; u < 6; u++) Edges.due("11 by 6, cut", x.user(u, 5), owed[u]);
        for (int u = 0; u < 6; u++) x.share(u, 9);
        for (int u = 0; u < 6; u++) Edges.due("99 by 54, cut", x.user(u, 5), owed[u]);
        x.share(5, 1);
        // 11 times 9 by 46 is 2; 11 by 46 is nothing
        int[] then = {2 - 5, 2 - 6, 2, 2, 2, 0};
        for (int u = 0; u < 6; u++) Edges.due("by 46, cut", x.user(u, 5), then[u]);
        for (int u = 0; u < 6; u++) x.share(u, 1);
        Edges.job(x, 2, 1, 1, 5);
        x.quantum(1);
        for (int u = 0; u < 6; u++) Edges.due("12 by 6", x.user(u, 5), 2 - x.user(u, 1));
    }

    private static void slotNone() {
        Edges.sentence("26: slot: NONE if there is none such, or another what");
        GangMatrix x = Edges.with(4);
        for (int what = 0; what < 6; what++) Edges.due("no SLOT", x.slot(0, what), Edges.NONE);
        Edges.job(x, 0, 3, 9, 0);
        Edges.job(x, 1, 3, 9, 0);
        for (int what = 0; what < 6; what++) {
            int asked = what;
            Edges.only("slot", s -> x.slot(s, asked), 0, 1, Edges.NONE);
        }
        Edges.only("what", what -> x.slot(1, what), 0, 5, Edges.NONE);
        Edges.due("killed", x.kill(0), 1);
        Edges.due("it went", x.slot(1, 0), Edges.NONE);
    }

    private static void slotJobs() {
        Edges.sentence("26: slot: 0 how many JOBS");
        GangMatrix x = Edges.with(4);
        for (int j = 0; j < 7; j++) {
            Edges.job(x, j, 1, 9, 0);
            Edges.due("JOBS", x.slot(j / 4, 0), j % 4 + 1);
        }
        Edges.due("JOBS of the first", x.slot(0, 0), 4);
        Edges.due("killed", x.kill(0) + x.kill(6), 2);
        Edges.due("JOBS of the first", x.slot(0, 0), 3);
        Edges.due("JOBS of the second", x.slot(1, 0), 2);
    }

    private static void slotPass() {
        Edges.sentence("26: slot: 2 PASS less the least PASS of all");
        GangMatrix x = Edges.with(4);
        for (int j = 0; j < 3; j++) Edges.job(x, j, 4, 99, j);
        int[][] pass = {{1, 0, 0}, {1, 1, 0}, {0, 0, 0}, {1, 0, 0}};
        for (int[] want : pass) {
            x.quantum(1);
            for (int s = 0; s < 3; s++) Edges.due("PASS of " + s, x.slot(s, 2), 1000000 * want[s]);
        }
        Edges.due("killed", x.kill(1) + x.kill(2), 2);
        Edges.due("the least is its own", x.slot(0, 2), 0);
    }

    private static void slotColumns() {
        Edges.sentence("26: slot: 4 COLUMNS that are in BLOCKS, 5 COLUMNS that are CELLS");
        GangMatrix x = Edges.with(32);
        int[] blocks = {0, 1, 2, 4, 4, 8, 8, 8, 8};
        for (int size = 1; size <= 8; size++) {
            Edges.job(x, size - 1, size, 9, 0);
            Edges.due("BLOCKS", x.slot(0, 4), blocks[size]);
            Edges.due("CELLS", x.slot(0, 5), size);
            Edges.due("killed", x.kill(size - 1), 1);
        }
        Edges.job(x, 8, 17, 9, 0);
        Edges.due("BLOCKS", x.slot(0, 4), 32);
        Edges.due("CELLS", x.slot(0, 5), 17);
        Edges.job(x, 9, 3, 9, 0);
        Edges.job(x, 10, 1, 9, 0);
        Edges.due("BLOCKS together", x.slot(1, 4), 5);
        Edges.due("CELLS together", x.slot(1, 5), 4);
    }

    private static void queueNone() {
        Edges.sentence("27: queue: The i-th of THE QUEUE (0: the first). NONE if there is none such");
        GangMatrix empty = new GangMatrix();
        for (int i : new int[] {-1, 0, 1, Edges.LOWEST, Edges.HIGHEST}) Edges.due("none waits", empty.queue(i), Edges.NONE);
        GangMatrix x = Edges.restless();
        Edges.only("of three", x::queue, 0, 2, Edges.NONE);
        for (int order = 0; order <= 1; order++) {
            GangMatrix y = Edges.with(4);
            y.set(Edges.ORDER, order);
            Edges.yes("down", y.down(0));
            for (int j = 0; j < 60; j++) Edges.job(y, j, 4, 9, j % 6);
            Edges.only("of sixty", y::queue, 0, 59, Edges.NONE);
            for (int i = 0; i < 60; i++) Edges.due("as they came", y.queue(i), i);
        }
    }

    private static void lendsNone() {
        Edges.sentence("28: lends: i NONE: how many. NONE if there is none such");
        GangMatrix x = Edges.with(8);
        x.set(Edges.STOP, 0);
        Edges.due("no SLOT", x.lends(0, Edges.NONE), Edges.NONE);
        Edges.job(x, 0, 5, 9, 0);
        Edges.job(x, 1, 1, 9, 0);
        Edges.due("none is lent to", x.lends(0, Edges.NONE), 0);
        Edges.due("no first", x.lends(0, 0), Edges.NONE);
        Edges.yes("move", x.move(1, 6));
        Edges.job(x, 2, 1, 9, 0);
        Edges.yes("move", x.move(2, 7));
        Edges.due("two", x.lends(0, Edges.NONE), 2);
        Edges.due("the first", x.lends(0, 0), 1);
        Edges.due("the second", x.lends(0, 1), 2);
        for (int i : new int[] {2, -2, Edges.LOWEST, Edges.HIGHEST}) Edges.due("no i " + i, x.lends(0, i), Edges.NONE);
        Edges.only("slot", s -> x.lends(s, Edges.NONE), 0, 1, Edges.NONE);
        Edges.only("slot", s -> x.lends(s, 0), 0, 1, Edges.NONE);
    }

    private static void lendsAlternatesAsOne() {
        Edges.sentence("28: lends: that would run by (d), if the SLOT had its turn now (ALTERNATES as 1)");
        GangMatrix x = Edges.with(4);
        x.set(Edges.STOP, 0);
        x.set(Edges.ALTERNATES, 0);
        Edges.job(x, 0, 3, 9, 0);
        Edges.job(x, 1, 1, 9, 0);
        Edges.yes("move", x.move(1, 3));
        Edges.due("of slot 0", x.lends(0, 0), 1);
        Edges.due("of slot 1, though it is not its turn", x.lends(1, 0), 0);
        Edges.due("as told", x.look(8), 0);
        x.quantum(1);
        Edges.due("nobody is lent to", x.went(0, 2), 0);
    }

    private static void wouldNone() {
        Edges.sentence("29: would: (n 1 .. 100) .. NONE if n can't be, or another what");
        GangMatrix x = Edges.restless();
        for (int what = 0; what <= 4; what++) {
            int asked = what;
            Edges.only("n", n -> x.would(n, asked), 1, 100, Edges.NONE);
        }
        Edges.only("what", what -> x.would(1, what), 0, 4, Edges.NONE);
        Edges.due("neither", x.would(0, 5), Edges.NONE);
        Edges.due("all are DONE by a hundred", x.would(100, 0), 5);
        Edges.due("no SLOT then", x.would(100, 3), 0);
    }

    private static void wouldHowMany() {
        Edges.sentence("29: would: 0 how many are DONE by them (not those that are)");
        GangMatrix x = states();
        Edges.due("none by eight", x.would(8, 0), 0);
        Edges.due("one by nine", x.would(9, 0), 1);
        Edges.due("three by 27", x.would(27, 0), 3);
        Edges.due("no more", x.would(100, 0), 3);
        Edges.due("DONE now", x.look(17), 1);
    }

    private static void wouldSorts() {
        Edges.sentence("29: would: 1 USED COLUMNS, 2 STILL, INSIDE and OPEN ones together, 3 SLOTS then, 4 WAITING then");
        GangMatrix x = Edges.with(8);
        x.set(Edges.STOP, 4);
        x.set(Edges.MOST, 1);
        Edges.job(x, 0, 3, 4, 0);
        Edges.yes("move", x.move(0, 4));
        Edges.job(x, 1, 1, 9, 0);
        Edges.yes("down", x.down(3));
        Edges.job(x, 2, 8, 9, 0);
        x.quantum(1);
        // column 3 is DOWN; 0 is USED; 4, 5, 6 STILL for two more, 7 INSIDE, 1, 2 OPEN
        Edges.due("USED", x.would(1, 1), 1);
        Edges.due("not USED, not DOWN", x.would(1, 2), 6);
        Edges.due("USED", x.would(2, 1), 2);
        Edges.due("USED", x.would(3, 1), 2 + 4);
        Edges.due("not USED, not DOWN", x.would(3, 2), 12 + 3);
        Edges.due("DONE", x.would(5, 0), 0);
        Edges.due("DONE", x.would(6, 0), 1);
        Edges.due("SLOTS", x.would(6, 3), 1);
        Edges.due("DONE", x.would(8, 0), 2);
        Edges.due("SLOTS", x.would(8, 3), 0);
        Edges.due("WAITING", x.would(8, 4), 1);
        Edges.due("counted by one QUANTUM that was", x.count(0), 1);
    }

    private static void whenNone() {
        Edges.sentence("30: when: END, if it is DONE. NONE if it would not be, is KILLED, or there is none such");
        GangMatrix x = states();
        Edges.due("DONE", x.when(0), 1);
        Edges.due("PLACED", x.when(1), 10);
        Edges.due("WAITING", x.when(2), 19);
        Edges.due("HELD", x.when(3), 28);
        Edges.due("KILLED", x.when(4), Edges.NONE);
        for (int j : new int[] {-1, 5, 59, 60, Edges.LOWEST, Edges.HIGHEST}) Edges.due("none such", x.when(j), Edges.NONE);
        x.later(2, 1, 1, 0);
        Edges.due("an ARRIVAL is no JOB yet", x.when(5), Edges.NONE);
        Edges.yes("down", x.down(3));
        Edges.due("it would not be", x.when(2), Edges.NONE);
        Edges.due("HELD by it", x.when(3), Edges.NONE);
        Edges.due("killed", x.kill(1), 1);
        Edges.due("KILLED", x.when(1), Edges.NONE);
    }

    private static void logNone() {
        Edges.sentence("31: log: (0: the latest) .. NONE if there is none such, or another what");
        GangMatrix x = Edges.with(4);
        for (int what = 0; what < 5; what++) Edges.due("no line", x.log(0, what), Edges.NONE);
        Edges.job(x, 0, 1, 9, 0);
        Edges.only("line", i -> x.log(i, 2), 0, 1, Edges.NONE);
        Edges.only("what", what -> x.log(0, what), 0, 4, Edges.NONE);
        Edges.due("the latest", x.log(0, 1), 1);
        Edges.due("the first", x.log(1, 1), 0);
    }

    private static void wentLatestSixty() {
        Edges.sentence("32: went: Of the i-th QUANTUM from the latest (0) back, the latest 60");
        GangMatrix x = Edges.with(4);
        x.quantum(1);
        Edges.job(x, 0, 3, 99, 0);
        Edges.job(x, 1, 1, 99, 0);
        x.quantum(58);
        Edges.went(x, 58, Edges.NONE, 0, 0, 0);
        Edges.due("no more", x.went(59, 1), Edges.NONE);
        x.quantum(1);
        Edges.went(x, 59, Edges.NONE, 0, 0, 0);
        Edges.went(x, 58, 0, 1, 0, 3);
        Edges.went(x, 57, 1, 1, 0, 1);
        Edges.due("no more", x.went(60, 1), Edges.NONE);
        x.quantum(1);
        Edges.went(x, 59, 0, 1, 0, 3);
        Edges.went(x, 0, 1, 1, 0, 1);
        Edges.due("no more", x.went(60, 1), Edges.NONE);
        x.quantum(100);
        Edges.went(x, 0, 1, 1, 0, 1);
        Edges.went(x, 59, 0, 1, 0, 3);
        Edges.due("no more", x.went(60, 1), Edges.NONE);
    }

    private static void wentNone() {
        Edges.sentence("32: went: the SLOT that had its turn (NONE) .. NONE if there is none such, or another what");
        GangMatrix x = Edges.with(4);
        for (int what = 0; what < 4; what++) Edges.due("no QUANTUM", x.went(0, what), Edges.NONE);
        x.quantum(1);
        Edges.went(x, 0, Edges.NONE, 0, 0, 0);
        Edges.job(x, 0, 1, 9, 0);
        x.quantum(2);
        Edges.only("QUANTUM", i -> x.went(i, 1), 0, 2, Edges.NONE);
        Edges.only("what", what -> x.went(0, what), 0, 3, Edges.NONE);
    }

    private static void countNone() {
        Edges.sentence("33: count: NONE for another what");
        GangMatrix x = Edges.restless();
        Edges.only("what", x::count, 0, 10, Edges.NONE);
    }

    private static void countOfAll() {
        Edges.sentence("33: count: 6 MOVES of all, 8 RESTARTS of all, 9 PLACED by BACKFILL, 10 EXTRA of all (those KILLED too)");
        GangMatrix x = Edges.with(4);
        x.set(Edges.STOP, 0);
        x.set(Edges.BACKFILL, 9);
        Edges.job(x, 0, 3, 9, 0);
        Edges.job(x, 1, 1, 9, 0);
        Edges.yes("move", x.move(1, 3));
        x.quantum(2);
        Edges.yes("down", x.down(3));
        // 0 can't be any more, 1 passes it by
        Edges.due("killed", x.kill(0) + x.kill(1), 2);
        Edges.counted(x, 8, 0, 0, 0, 0, 8, 1, 0, 2, 1, 2);
        x.quantum(1);
        Edges.counted(x, 8, 0, 0, 3, 1, 8, 1, 0, 2, 1, 2);
    }

    private static void imageNone() {
        Edges.sentence("34: image: gone back to (false): true; false if there is none");
        GangMatrix x = Edges.restless();
        Edges.no("none", x.image(false));
        Edges.no("none", x.image(false));
        Edges.same("what is refused", x, Edges.restless());
        x = new GangMatrix();
        Edges.yes("taken of a new object", x.image(true));
        Edges.job(x, 0, 1, 1, 0);
        Edges.yes("gone back to", x.image(false));
        Edges.same("what came behind THE IMAGE", x, new GangMatrix());
        Edges.yes("gone back to again", x.image(false));
    }

    private static void lookNone() {
        Edges.sentence("35: look: NONE - 99999999 for another what");
        GangMatrix x = states();
        Edges.only("what", x::look, 0, 22, Edges.NO_SUCH);
        int[] want = {4, 1, 0, 0, 0, 10, 0, 0, 1, 0, 1, 5, 0, 1, 1, 1, 1, 1, 1, 1, 0, 0, 9};
        for (int what = 0; what <= 22; what++) Edges.due("look(" + what + ")", x.look(what), want[what]);
    }

    private static void lookGreatestLoad() {
        Edges.sentence("35: look: 19 the greatest LOAD, 20 the first COLUMN with it");
        GangMatrix x = Edges.with(32);
        x.set(Edges.STOP, 0);
        Edges.due("none", x.look(19), 0);
        Edges.due("the first of all", x.look(20), 0);
        Edges.job(x, 0, 1, 9, 0);
        Edges.yes("move", x.move(0, 31));
        Edges.due("one", x.look(19), 1);
        Edges.due("the last COLUMN", x.look(20), 31);
        Edges.job(x, 1, 16, 9, 0);
        Edges.yes("move", x.move(1, 16));
        Edges.due("two", x.look(19), 2);
        Edges.due("the last COLUMN", x.look(20), 31);
        Edges.job(x, 2, 1, 9, 0);
        Edges.yes("move", x.move(2, 20));
        Edges.due("two", x.look(19), 2);
        Edges.due("the first of two COLUMNS", x.look(20), 20);
        Edges.due("killed", x.kill(0) + x.kill(2), 2);
        Edges.due("one", x.look(19), 1);
        Edges.due("the first of its BLOCK", x.look(20), 16);
        for (int c = 0; c < 32; c++) {
            GangMatrix y = Edges.with(32);
            Edges.job(y, 0, 1, 9, 0);
            if (c > 0) Edges.yes("move", y.move(0, c));
            Edges.due("the only COLUMN", y.look(20), c);
        }
    }

    private static void lookLines() {
        Edges.sentence("35: look: 22 lines of THE LOG (all that came)");
        GangMatrix x = Edges.with(4);
        for (int j = 0; j < 40; j++) {
            Edges.job(x, j, 4, 9, 0);
            Edges.due("killed", x.kill(j), 1);
            Edges.due("three each", x.look(22), 3 * (j + 1));
        }
        Edges.due("the latest 60 can be asked", x.log(59, 2), 20);
        Edges.due("no more", x.log(60, 2), Edges.NONE);
    }
}
