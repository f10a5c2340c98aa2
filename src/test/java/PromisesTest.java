/**
 * For each promise of the document small runs worked out by hand: ordinary inputs, the edges that the
 * document names, wrong inputs. An answer that is not due is printed with the number of its promise.
 */
public final class PromisesTest {
    private static final int NONE = -1;
    private static final int P = 0, MOST = 1, FIT = 2, ORDER = 3, BACKFILL = 4, PATIENCE = 5, STOP = 6, SAVE = 7,
        ALTERNATES = 8, AUTO = 9;
    private static final int STATE = 4, LEFT = 5, KEPT = 6, SLOT = 7, COLUMN = 8;
    private static final int HELD = 0, WAITING = 1, PLACED = 2, DONE = 3, KILLED = 4;
    private static int wrong;
    private static int promise;
    private static int checks;

    public static void main(String[] args) {
        newObject();
        settings();
        shares();
        jobsCome();
        goingOn();
        fits();
        jobsComeLater();
        killing();
        turnsByShares();
        longRuns();
        runningAndSaving();
        lending();
        columnsBySorts();
        endsAndHeldOnes();
        columnsFail();
        columnsComeBack();
        unifying();
        repacking();
        moving();
        weighingAndMigrating();
        packingAndRelaying();
        urging();
        thinning();
        whereAndFree();
        cellsAndLoads();
        ofJobs();
        ofUsers();
        ofSlots();
        theQueue();
        inThought();
        theLog();
        whatWent();
        counts();
        theImage();
        looking();
        System.out.println(checks + " answers looked at, " + wrong + " not as due");
        if (wrong != 0) System.exit(1);
    }

    private static void due(String what, int got, int want) {
        checks++;
        if (got != want) {
            wrong++;
            System.out.println("promise " + promise + ": " + what + " answered " + got + ", due is " + want);
        }
    }

    private static void yes(String what, boolean got) {
        due(what, got ? 1 : 0, 1);
    }

    private static void no(String what, boolean got) {
        due(what, got ? 1 : 0, 0);
    }

    /** A new object with p columns whose slots are not unified by themselves. */
    private static GangMatrix with(int p) {
        GangMatrix x = new GangMatrix();
        yes("set(0, " + p + ")", x.set(P, p));
        yes("set(9, 0)", x.set(AUTO, 0));
        return x;
    }

    private static void job(GangMatrix x, int number, int size, int work, int user) {
        due("job " + number, x.job(size, work, user, NONE), number);
    }

    private static void at(GangMatrix x, int job, int slot, int column) {
        due("SLOT of " + job, x.of(job, SLOT), slot);
        due("COLUMN of " + job, x.of(job, COLUMN), column);
    }

    private static void line(GangMatrix x, int i, int time, int what, int job, int slot, int column) {
        int[] want = {time, what, job, slot, column};
        for (int k = 0; k < 5; k++) due("log(" + i + ", " + k + ")", x.log(i, k), want[k]);
    }

    private static void counted(GangMatrix x, int... want) {
        for (int k = 0; k < want.length; k++) due("count(" + k + ")", x.count(k), want[k]);
    }

    private static void newObject() {
        promise = 1;
        GangMatrix x = new GangMatrix();
        int[] told = {16, 4, 0, 0, 0, 10, 1, 0, 1, 1};
        for (int k = 0; k < 10; k++) due("look(" + k + ")", x.look(k), told[k]);
        for (int k = 10; k <= 22; k++) due("look(" + k + ")", x.look(k), 0);
        due("no job", x.of(0, 0), NONE);
        due("a column", x.load(15), 0);
        due("no 17th column", x.load(16), NONE);
        due("NONE", GangMatrix.NONE, -1);
    }

    private static void settings() {
        promise = 2;
        int[] low = {4, 1, 0, 0, 0, 0, 0, 0, 0, 0};
        int[] high = {32, 8, 2, 1, 9, 99, 9, 99, 1, 1};
        GangMatrix x = new GangMatrix();
        for (int k = 0; k < 10; k++) {
            no("below the least of " + k, x.set(k, low[k] - 1));
            no("above the most of " + k, x.set(k, high[k] + 1));
            no("far below", x.set(k, Integer.MIN_VALUE));
            no("far above", x.set(k, Integer.MAX_VALUE));
            yes("the least of " + k, x.set(k, low[k]));
            due("as told", x.look(k), low[k]);
            yes("the most of " + k, x.set(k, high[k]));
            due("as told", x.look(k), high[k]);
        }
        no("another what", x.set(10, 1));
        no("another what", x.set(-1, 1));
        for (int p = 1; p <= 64; p++) {
            if (p == 4 || p == 8 || p == 16 || p == 32) yes("p " + p, x.set(P, p));
            else no("p " + p, x.set(P, p));
        }
        yes("down", x.down(31));
        yes("p anew", x.set(P, 32));
        due("none is DOWN then", x.look(21), 0);
        due("later", x.later(5, 1, 1, 0), 1);
        no("p with an ARRIVAL", x.set(P, 8));
        x.quantum(10);
        due("the arrival is done", x.of(0, STATE), DONE);
        no("p with a JOB that is DONE", x.set(P, 8));

        x = with(4);
        x.set(MOST, 1);
        job(x, 0, 4, 9, 0);
        job(x, 1, 4, 9, 0);
        due("no slot for it", x.of(1, STATE), WAITING);
        no("refused", x.set(MOST, 9));
        due("still waiting", x.of(1, STATE), WAITING);
        yes("two slots", x.set(MOST, 2));
        at(x, 1, 1, 0);
        yes("fewer than there are", x.set(MOST, 1));
        due("slots stay", x.look(13), 2);
    }

    private static void shares() {
        promise = 3;
        GangMatrix x = with(4);
        no("user", x.share(6, 1));
        no("user", x.share(-1, 1));
        no("share", x.share(0, 0));
        no("share", x.share(0, 10));
        x.set(MOST, 1);
        x.set(ORDER, 1);
        job(x, 0, 2, 100, 0);
        job(x, 1, 1, 1, 1);
        due("one done", x.quantum(1), 1);
        job(x, 2, 4, 1, 1);
        job(x, 3, 1, 1, 0);
        due("RATIO 1 ahead of 2", x.queue(0), 2);
        yes("share", x.share(0, 9));
        due("as told", x.user(0, 0), 9);
        at(x, 3, 0, 2);
        due("WEIGHT", x.slot(0, 1), 18);
    }

    private static void jobsCome() {
        promise = 4;
        GangMatrix x = with(4);
        int[][] bad = {{0, 1, 0, NONE}, {5, 1, 0, NONE}, {-1, 1, 0, NONE}, {1, 0, 0, NONE}, {1, 10000, 0, NONE},
            {1, 1, 6, NONE}, {1, 1, -1, NONE}, {1, 1, 0, 0}, {1, 1, 0, -2}, {1, 1, 0, 60},
            {Integer.MAX_VALUE, 1, 0, NONE}, {1, Integer.MIN_VALUE, 0, NONE}};
        for (int[] b : bad) due("a job that can't be", x.job(b[0], b[1], b[2], b[3]), NONE);
        due("none came", x.look(22), 0);
        due("first", x.job(4, 9999, 5, NONE), 0);
        due("behind it", x.job(1, 1, 0, 0), 1);
        due("HELD", x.of(1, STATE), HELD);
        due("its own AFTER can't be", x.job(1, 1, 0, 2), NONE);
        due("kill", x.kill(1), 1);
        due("AFTER is KILLED", x.job(1, 1, 0, 1), NONE);
        due("short", x.job(1, 1, 0, NONE), 2);
        while (x.of(2, STATE) != DONE && x.look(10) < 9) x.quantum(1);
        due("AFTER is DONE", x.job(1, 1, 0, 2), 3);
        due("not HELD", x.of(3, STATE), PLACED);
        due("an arrival counts", x.later(90000, 1, 1, 0), 1);
        for (int n = 4; n < 59; n++) due("job", x.job(1, 1, 0, NONE), n);
        due("60 with the arrival", x.job(1, 1, 0, NONE), NONE);
        due("60 with the arrival", x.later(90000, 1, 1, 0), NONE);
    }

    private static void goingOn() {
        promise = 4;
        GangMatrix x = with(8);
        x.set(MOST, 1);
        x.set(BACKFILL, 2);
        x.set(PATIENCE, 2);
        job(x, 0, 4, 9, 0);
        job(x, 1, 8, 9, 0);
        job(x, 2, 8, 9, 0);
        job(x, 3, 8, 9, 0);
        job(x, 4, 1, 9, 0);
        due("the third behind is not tried", x.of(4, STATE), WAITING);
        yes("three are tried", x.set(BACKFILL, 3));
        at(x, 4, 0, 4);
        due("PASSED", x.of(1, 17), 1);
        due("of the first alone", x.of(2, 17), 0);
        line(x, 0, 0, 2, 4, 0, 4);
        job(x, 5, 1, 9, 0);
        at(x, 5, 0, 5);
        due("PATIENCE is out", x.of(1, 17), 2);
        job(x, 6, 1, 9, 0);
        due("no more", x.of(6, STATE), WAITING);
        due("kill", x.kill(0), 1);
        due("the first still can't", x.of(1, STATE), WAITING);
        x.kill(4);
        x.kill(5);
        at(x, 1, 0, 0);
        due("the next is first", x.queue(0), 2);
        due("PASSED stays", x.of(1, 17), 2);

        x = with(8);
        x.set(MOST, 1);
        x.set(BACKFILL, 9);
        x.set(PATIENCE, 2);
        yes("down", x.down(0));
        job(x, 0, 8, 9, 0);
        x.set(PATIENCE, 0);
        job(x, 1, 1, 9, 0);
        job(x, 2, 1, 9, 0);
        job(x, 3, 1, 9, 0);
        due("no patience, no backfill", x.look(14), 4);
        x.set(PATIENCE, 2);
        due("two pass by at once, no third", x.look(14), 2);
        at(x, 1, 0, 1);
        at(x, 2, 0, 2);
        due("PLACED by BACKFILL", x.count(9), 2);
    }

    private static void fits() {
        promise = 4;
        // slot 0: [0 0 . .  3 4 . .]; slot 1: the same as slot 0 but for its own loads
        GangMatrix x = with(8);
        job(x, 0, 2, 9, 0);
        job(x, 1, 2, 9, 0);
        job(x, 2, 1, 9, 0);
        at(x, 2, 0, 4);
        x.kill(1);
        // free: 2, 3 (room 2), 5 (room 1), 6, 7 (room 2)
        x.set(FIT, 1);
        due("least ROOM", x.where(1, 1), 5);
        due("as 0 among the same", x.where(2, 1), 2);
        x.set(FIT, 0);
        due("least COLUMN", x.where(1, 1), 2);
        job(x, 3, 8, 9, 0);
        x.set(FIT, 2);
        due("LOAD 1 everywhere free", x.where(1, 1), 2);
        due("where width 4 is in a new slot", x.where(4, 0), 2);
        due("the greatest LOAD is 2 in both halves, 6 together and 5", x.where(4, 1), 4);
        x.set(FIT, 0);
        due("FIT 0 in a new slot", x.where(4, 1), 0);

        // in a slot a DOWN column makes ROOM smaller
        x = with(8);
        x.set(FIT, 1);
        yes("down", x.down(7));
        due("ROOM 1 beside the DOWN one", x.where(1, 1), 6);
        due("ROOM 2", x.where(2, 1), 4);
        x.set(FIT, 0);
        due("first", x.where(1, 1), 0);

        // the first SLOT only where FIT says nothing else
        x = with(4);
        job(x, 0, 1, 9, 0);
        job(x, 1, 4, 9, 0);
        x.set(MOST, 8);
        job(x, 2, 4, 9, 0);
        job(x, 3, 2, 9, 0);
        at(x, 3, 0, 2);
        x.kill(2);
        x.set(FIT, 0);
        due("slot 0", x.where(1, 0), 0);
        due("column 1", x.where(1, 1), 1);
    }

    private static void jobsComeLater() {
        promise = 5;
        GangMatrix x = with(4);
        int[][] bad = {{-1, 1, 1, 0}, {100000, 1, 1, 0}, {0, 0, 1, 0}, {0, 5, 1, 0}, {0, 1, 0, 0}, {0, 1, 10000, 0},
            {0, 1, 1, 6}, {0, 1, 1, -1}};
        for (int[] b : bad) due("can't be", x.later(b[0], b[1], b[2], b[3]), NONE);
        due("at 2", x.later(2, 4, 5, 1), 1);
        due("now", x.later(0, 2, 5, 2), 2);
        due("at 2, told behind", x.later(2, 1, 5, 3), 3);
        due("the last TIME", x.later(99999, 1, 1, 0), 4);
        due("it does not go on", x.look(11), 0);
        x.quantum(1);
        due("one came", x.look(11), 1);
        due("USER", x.of(0, 2), 2);
        due("came at", x.of(0, 13), 0);
        due("it ran at once", x.of(0, LEFT), 4);
        due("before now", x.later(0, 1, 1, 0), NONE);
        x.quantum(2);
        due("three came", x.look(11), 3);
        due("as told", x.of(1, 2), 1);
        due("as told", x.of(2, 2), 3);
        due("came at", x.of(2, 13), 2);
        due("yet to come", x.look(12), 1);
        for (int n = 4; n < 60; n++) due("later", x.later(50, 1, 1, 0), n - 2);
        due("there are 60", x.later(50, 1, 1, 0), NONE);
        due("there are 60", x.job(1, 1, 0, NONE), NONE);
    }

    private static void killing() {
        promise = 6;
        GangMatrix x = with(4);
        x.set(MOST, 1);
        due("none such", x.kill(0), NONE);
        due("none such", x.kill(-1), NONE);
        job(x, 0, 4, 9, 0);
        int[] after = {NONE, 0, 0, 1, 3, 2};
        for (int n = 1; n < 6; n++) due("job", x.job(1, 1, 0, after[n]), n);
        job(x, 6, 4, 9, 0);
        due("six go", x.kill(0), 6);
        int[] order = {5, 2, 4, 3, 1, 0};
        line(x, 0, 0, 1, 6, 0, 0);
        for (int i = 0; i < 6; i++) line(x, i + 1, 0, 4, order[i], NONE, NONE);
        due("END", x.of(4, 15), 0);
        due("KILLED", x.of(4, STATE), KILLED);
        due("SLOT", x.of(0, SLOT), NONE);
        due("KILLED already", x.kill(0), NONE);
        due("it goes on", x.of(6, STATE), PLACED);
        job(x, 7, 1, 1, 0);
        due("one WAITING", x.kill(7), 1);
        due("no more in the queue", x.queue(0), NONE);
        due("nine", x.quantum(9), 1);
        due("DONE", x.kill(6), NONE);
        due("END", x.of(6, 15), 9);
        job(x, 8, 4, 9, 0);
        due("HELD", x.job(1, 1, 0, 8), 9);
        due("a HELD one alone", x.kill(9), 1);
        due("END", x.of(9, 15), 9);
        due("its AFTER stays", x.of(8, STATE), PLACED);
    }

    private static void turnsByShares() {
        promise = 7;
        GangMatrix x = with(4);
        due("none", x.quantum(0), NONE);
        due("too many", x.quantum(101), NONE);
        due("too few", x.quantum(Integer.MIN_VALUE), NONE);
        due("no time went", x.look(10), 0);
        x.share(0, 3);
        job(x, 0, 4, 9999, 0);
        job(x, 1, 4, 9999, 1);
        int[] turns = {0, 1, 0, 0, 0, 1, 0};
        int[] less = {333333, 0, 0, 0, 333332, 0, 0};
        for (int i = 0; i < turns.length; i++) {
            due("quantum", x.quantum(1), 0);
            due("turn " + i, x.went(0, 0), turns[i]);
            due("PASS of 0 after " + i, x.slot(0, 2), less[i]);
        }
        due("TURNS", x.slot(0, 3), 5);
        due("TURNS", x.slot(1, 3), 2);
        due("a hundred", x.quantum(100), 0);
        due("TIME", x.look(10), 107);
        job(x, 2, 4, 5, 2);
        due("a new SLOT has the least PASS", x.slot(2, 2), 0);
        due("TURNS", x.slot(2, 3), 0);
    }

    /** PASS grows by a million a turn: in the longest runs it is far above what an int holds. */
    private static void longRuns() {
        promise = 7;
        GangMatrix x = with(4);
        job(x, 0, 4, 9999, 0);
        job(x, 1, 4, 9999, 1);
        for (int i = 1; i <= 100; i++) {
            due("quantum", x.quantum(100), 0);
            due("TURNS of 0", x.slot(0, 3), 50 * i);
            due("TURNS of 1", x.slot(1, 3), 50 * i);
        }
        due("LEFT", x.of(0, LEFT), 4999);
        due("USED", x.user(1, 1), 20000);
        job(x, 2, 4, 9, 2);
        due("the least PASS", x.slot(2, 2), 0);
        due("when", x.when(2), 10000 + 27);
    }

    private static void runningAndSaving() {
        promise = 7;
        GangMatrix x = with(4);
        x.set(SAVE, 3);
        job(x, 0, 3, 20, 4);
        x.quantum(2);
        due("KEPT", x.of(0, KEPT), 20);
        due("LEFT", x.of(0, LEFT), 18);
        x.quantum(1);
        due("KEPT", x.of(0, KEPT), 17);
        x.quantum(1);
        due("KEPT", x.of(0, KEPT), 17);
        due("RAN", x.of(0, 10), 4);
        due("USED", x.user(4, 1), 12);
        x.set(SAVE, 0);
        x.quantum(2);
        due("no KEPT any more", x.of(0, KEPT), 17);
        due("done by them", x.quantum(14), 1);
        due("END", x.of(0, 15), 20);
        due("nothing runs", x.quantum(3), 0);
        due("TIME", x.look(10), 23);
    }

    private static void lending() {
        promise = 28;
        GangMatrix x = with(4);
        x.set(STOP, 0);
        job(x, 0, 3, 50, 0);
        job(x, 1, 1, 50, 1);
        yes("move", x.move(1, 3));
        job(x, 2, 1, 50, 2);
        yes("move", x.move(2, 3));
        at(x, 2, 2, 3);
        due("one", x.lends(0, NONE), 1);
        due("by number", x.lends(0, 0), 1);
        due("no second", x.lends(0, 1), NONE);
        due("before the first", x.lends(0, -2), NONE);
        due("the other way", x.lends(1, 0), 0);
        due("no such slot", x.lends(3, NONE), NONE);
        due("no such slot", x.lends(-1, NONE), NONE);
        x.set(ALTERNATES, 0);
        due("ALTERNATES as 1", x.lends(0, 0), 1);
        x.set(ALTERNATES, 1);
        promise = 7;
        x.quantum(1);
        due("own", x.went(0, 1), 1);
        due("lent", x.went(0, 2), 1);
        due("EXTRA", x.of(1, 11), 1);
        due("RAN", x.of(1, 10), 0);
        due("USED", x.user(1, 1), 1);
        promise = 28;
        due("by RATIO", x.lends(0, 0), 2);
        x.set(ALTERNATES, 0);
        promise = 7;
        x.quantum(1);
        due("slot 1", x.went(0, 0), 1);
        due("nobody lent to", x.went(0, 2), 0);
        promise = 28;
        x.set(STOP, 9);
        job(x, 3, 1, 50, 3);
        at(x, 3, 1, 0);
        yes("move", x.move(3, 1));
        due("STOPPED", x.of(3, 12), 3);
        due("who is STOPPED is not lent to, nor in the way", x.lends(1, NONE), 1);
        due("the wide one", x.lends(1, 0), 0);
    }

    private static void columnsBySorts() {
        promise = 7;
        GangMatrix x = with(8);
        x.set(STOP, 4);
        yes("down", x.down(0));
        job(x, 0, 3, 5, 0);
        at(x, 0, 0, 4);
        x.up(0);
        yes("move", x.move(0, 0));
        x.down(7);
        due("STOPPED", x.of(0, 12), 3);
        x.quantum(1);
        counted(x, 0, 3, 1, 3, 1);
        due("STOPPED", x.of(0, 12), 2);
        due("LEFT", x.of(0, LEFT), 5);
        x.quantum(2);
        due("STOPPED", x.of(0, 12), 0);
        due("LEFT", x.of(0, LEFT), 5);
        x.quantum(1);
        due("LEFT", x.of(0, LEFT), 4);
        counted(x, 3, 9, 4, 12, 4);
        due("its TURNS go on", x.slot(0, 3), 4);
    }

    private static void endsAndHeldOnes() {
        promise = 7;
        GangMatrix x = with(4);
        job(x, 0, 4, 2, 0);
        job(x, 1, 2, 1, 1);
        job(x, 2, 2, 1, 1);
        due("HELD", x.job(4, 1, 2, 2), 3);
        due("HELD", x.job(4, 1, 2, 0), 4);
        due("slots", x.look(13), 2);
        due("done", x.quantum(1), 0);
        due("done", x.quantum(1), 2);
        line(x, 1, 2, 3, 2, 1, 2);
        line(x, 2, 2, 3, 1, 1, 0);
        line(x, 0, 2, 1, 3, 1, 0);
        due("not HELD any more", x.of(3, STATE), PLACED);
        due("still HELD", x.of(4, STATE), HELD);
        due("done", x.quantum(1), 1);
        due("END", x.of(0, 15), 3);
        due("came to be PLACED", x.of(4, 14), 3);

        // AUTO unifies behind the ends, then it goes on
        x = new GangMatrix();
        x.set(P, 4);
        x.set(MOST, 2);
        job(x, 0, 2, 9, 0);
        job(x, 1, 2, 1, 0);
        job(x, 2, 2, 9, 1);
        job(x, 3, 2, 9, 1);
        job(x, 4, 4, 9, 2);
        x.kill(2);
        due("slots", x.look(13), 2);
        due("one is done", x.quantum(1), 1);
        due("one slot and a new one", x.look(13), 2);
        at(x, 3, 0, 2);
        at(x, 4, 1, 0);
        line(x, 1, 1, 7, NONE, 0, 1);
        line(x, 0, 1, 1, 4, 1, 0);
    }

    private static void columnsFail() {
        promise = 8;
        GangMatrix x = with(4);
        no("none such", x.down(4));
        no("none such", x.down(-1));
        x.set(SAVE, 2);
        job(x, 0, 4, 9, 0);
        job(x, 1, 3, 9, 1);
        job(x, 2, 1, 9, 2);
        job(x, 3, 2, 9, 2);
        at(x, 3, 2, 2);
        x.quantum(6);
        due("LEFT", x.of(1, LEFT), 7);
        due("KEPT", x.of(1, KEPT), 7);
        x.quantum(4);
        due("LEFT", x.of(1, LEFT), 6);
        yes("down", x.down(3));
        no("it is", x.down(3));
        line(x, 2, 10, 5, 0, 0, 0);
        line(x, 1, 10, 5, 1, 1, 0);
        line(x, 0, 10, 5, 3, 2, 2);
        due("LEFT is KEPT", x.of(1, LEFT), 7);
        due("RESTARTS", x.of(1, 16), 1);
        due("not its own", x.of(2, 16), 0);
        at(x, 2, 0, 0);
        due("the first can't be, no BACKFILL", x.of(3, STATE), WAITING);
        due("as they came to wait", x.queue(2), 3);
        // job 0 ran 3 times and 1 too, each kept 2; job 3 ran 4 times and kept them
        due("WASTED", x.count(5), 4 + 3 + 0);
        due("RESTARTS of all", x.count(8), 3);
        due("a WAITING one has none", x.of(0, COLUMN), NONE);

        // a BLOCK has it, though no CELL does
        x = with(4);
        x.set(STOP, 9);
        job(x, 0, 3, 9, 0);
        yes("down", x.down(3));
        due("put back", x.of(0, 16), 1);
        due("WAITING", x.of(0, STATE), WAITING);
        x.up(3);
        job(x, 1, 1, 9, 0);
        yes("move", x.move(1, 3));
        due("STOPPED", x.of(1, 12), 3);
        yes("down", x.down(3));
        due("STOPPED no more", x.of(1, 12), 0);
    }

    private static void columnsComeBack() {
        promise = 9;
        GangMatrix x = with(4);
        no("not DOWN", x.up(0));
        no("none such", x.up(4));
        no("none such", x.up(-1));
        yes("down", x.down(2));
        job(x, 0, 4, 9, 0);
        due("can't be", x.of(0, STATE), WAITING);
        yes("up", x.up(2));
        no("it is not", x.up(2));
        due("none is", x.look(21), 0);
        at(x, 0, 0, 0);
        GangMatrix y = new GangMatrix();
        y.set(P, 32);
        yes("the last column", y.down(31));
        due("it is", y.look(21), 1);
        yes("the last column", y.up(31));
    }

    private static void unifying() {
        promise = 10;
        GangMatrix x = with(4);
        due("none", x.unify(), 0);
        for (int n = 0; n < 6; n++) job(x, n, 2, 99, n);
        x.quantum(4);
        due("TURNS", x.slot(0, 3), 2);
        x.kill(1);
        x.kill(2);
        x.kill(5);
        // slots: 0 at 0; 3 at 2; 4 at 0
        due("one goes", x.unify(), 1);
        line(x, 0, 4, 7, NONE, 0, 1);
        at(x, 3, 0, 2);
        at(x, 4, 1, 0);
        due("TURNS together", x.slot(0, 3), 3);
        due("UNIFIED", x.count(7), 1);
        due("PASS the less", x.slot(0, 2), 0);
        due("again", x.unify(), 0);
        x.kill(0);
        due("the other is first now", x.unify(), 1);
        due("one slot", x.look(13), 1);
        at(x, 4, 0, 0);

        // it goes on behind it
        x = with(4);
        x.set(MOST, 2);
        for (int n = 0; n < 4; n++) job(x, n, 2, 9, 0);
        job(x, 4, 4, 9, 0);
        x.kill(1);
        x.kill(2);
        due("WAITING", x.of(4, STATE), WAITING);
        due("one goes", x.unify(), 1);
        at(x, 3, 0, 2);
        at(x, 4, 1, 0);
        // three slots, of each one job: all are one then
        x = with(8);
        for (int n = 0; n < 12; n++) job(x, n, 2, 9, 0);
        for (int n = 0; n < 12; n++) if (n != 0 && n != 5 && n != 10) due("kill", x.kill(n), 1);
        due("three", x.look(13), 3);
        due("two go", x.unify(), 2);
        line(x, 1, 0, 7, NONE, 0, 1);
        line(x, 0, 0, 7, NONE, 0, 1);
        at(x, 10, 0, 4);
        due("UNIFIED", x.count(7), 2);
    }

    private static void repacking() {
        promise = 11;
        GangMatrix x = with(4);
        due("none", x.repack(), 0);
        x.set(STOP, 0);
        job(x, 0, 1, 99, 0);
        job(x, 1, 4, 99, 1);
        job(x, 2, 2, 99, 2);
        x.quantum(3);
        due("as few as can be", x.repack(), 2);
        at(x, 1, 0, 0);
        at(x, 2, 1, 2);
        at(x, 0, 1, 0);
        due("TURNS", x.slot(0, 3), 0);
        due("TURNS", x.slot(1, 3), 0);
        due("PASS", x.slot(0, 2), 0);
        due("PASS", x.slot(1, 2), 0);
        due("LEFT stays", x.of(1, LEFT) + x.of(2, LEFT) < 198 ? 1 : 0, 1);

        // it goes on behind it: a slot less leaves room for one that waits
        x = with(4);
        x.set(MOST, 2);
        x.set(STOP, 0);
        for (int n = 0; n < 4; n++) job(x, n, 2, 9, 0);
        job(x, 4, 4, 9, 0);
        x.kill(1);
        x.kill(2);
        due("WAITING", x.of(4, STATE), WAITING);
        due("one slot by it", x.repack(), 1);
        at(x, 4, 1, 0);
        due("two now", x.look(13), 2);
    }

    private static void moving() {
        promise = 12;
        GangMatrix x = with(8);
        no("none such", x.move(0, 0));
        job(x, 0, 3, 9, 0);
        job(x, 1, 2, 9, 0);
        at(x, 1, 0, 4);
        no("the one it has", x.move(0, 0));
        no("no multiple", x.move(0, 2));
        no("no COLUMN", x.move(0, 8));
        no("no COLUMN", x.move(0, -4));
        no("no COLUMN", x.move(0, Integer.MIN_VALUE));
        no("none such", x.move(-1, 0));
        no("none such", x.move(2, 0));
        due("nothing moved", x.count(6), 0);
        x.set(MOST, 1);
        no("for MOST", x.move(0, 4));
        at(x, 0, 0, 0);
        yes("in its slot", x.move(1, 2 + 4));
        at(x, 1, 0, 6);
        x.set(MOST, 2);
        yes("a new slot", x.move(0, 4));
        at(x, 0, 1, 4);
        at(x, 1, 0, 6);
        due("STOPPED, rounded up", x.of(0, 12), 1);
        due("MOVES", x.of(0, 18), 1);
        due("MOVES of all", x.count(6), 2);
        line(x, 0, 0, 6, 0, 1, 4);
        yes("its slot goes", x.move(0, 0));
        at(x, 0, 0, 0);
        due("one slot", x.look(13), 1);
        yes("down", x.down(5));
        no("DOWN", x.move(0, 4));
        no("DOWN", x.move(1, 4));
        at(x, 1, 0, 6);

        // three slots, of which two may be: its own goes, but a new one can't be
        x = with(4);
        job(x, 0, 4, 9, 0);
        job(x, 1, 4, 9, 0);
        job(x, 2, 2, 9, 0);
        x.set(MOST, 2);
        no("for MOST", x.move(2, 2));
        at(x, 2, 2, 0);
        due("three slots", x.look(13), 3);
        x.set(MOST, 3);
        yes("its own goes, a new one comes", x.move(2, 2));
        at(x, 2, 2, 2);
    }

    private static void weighingAndMigrating() {
        promise = 14;
        GangMatrix x = with(4);
        due("none such", x.weigh(0, 0), -1000000000);
        job(x, 0, 2, 7, 0);
        job(x, 1, 1, 5, 0);
        due("the least c", x.weigh(1, 0), 3);
        due("nothing SAVED", x.weigh(1, 1), 0);
        due("BEST", x.weigh(0, 0), 2);
        due("SAVED below 0", x.weigh(0, 1), -1);
        due("GAIN", x.weigh(0, 2), -20);
        due("COST", x.weigh(0, 3), 2);
        due("not above", x.weigh(0, 4), 0);
        due("another what", x.weigh(0, 5), -1000000000);
        due("another what", x.weigh(0, -1), -1000000000);
        promise = 13;
        no("refused", x.migrate(0));
        no("none such", x.migrate(5));
        no("none such", x.migrate(-1));
        job(x, 2, 4, 9, 1);
        promise = 14;
        due("no BEST", x.weigh(2, 0), -1000000000);
        due("no BEST", x.weigh(2, 3), -1000000000);
        promise = 13;
        no("no BEST", x.migrate(2));

        x = with(8);
        x.set(STOP, 2);
        job(x, 0, 8, 9, 0);
        job(x, 1, 3, 4, 1);
        job(x, 2, 3, 2, 2);
        yes("move", x.move(2, 0));
        x.kill(0);
        at(x, 1, 0, 0);
        at(x, 2, 1, 0);
        promise = 14;
        due("BEST", x.weigh(1, 0), 4);
        due("SAVED", x.weigh(1, 1), 1);
        due("GAIN by the least LEFT", x.weigh(1, 2), 16);
        due("COST", x.weigh(1, 3), 6);
        due("above", x.weigh(1, 4), 1);
        x.set(STOP, 9);
        due("COST", x.weigh(1, 3), 21);
        due("not above", x.weigh(1, 4), 0);
        promise = 13;
        no("refused", x.migrate(1));
        x.set(STOP, 2);
        yes("migrate", x.migrate(1));
        at(x, 1, 0, 4);
        at(x, 2, 0, 0);
        due("STOPPED", x.of(1, 12), 2);
        due("MOVES", x.of(1, 18), 1);
        line(x, 0, 0, 6, 1, 0, 4);
        due("one slot", x.look(13), 1);
        x.set(MOST, 1);
        x.down(3);
        promise = 14;
        due("no BEST for what is DOWN", x.weigh(1, 0), -1000000000);
        due("WAITING", x.of(2, STATE), WAITING);
        due("not PLACED", x.weigh(2, 0), -1000000000);
    }

    private static void packingAndRelaying() {
        promise = 15;
        GangMatrix x = with(8);
        for (int k = 0; k < 4; k++) due("none", x.pack(k), 0);
        due("another what", x.pack(4), -1000000000);
        due("another what", x.pack(-1), -1000000000);
        promise = 16;
        no("nothing gained", x.relay());
        promise = 15;
        job(x, 0, 8, 9, 0);
        job(x, 1, 4, 10, 0);
        job(x, 2, 3, 12, 1);
        yes("move", x.move(2, 0));
        x.kill(0);
        due("LOAD", x.look(19), 2);
        due("the greatest LOAD then", x.pack(0), 1);
        due("others", x.pack(1), 1);
        due("GAIN", x.pack(2), 80);
        due("COST", x.pack(3), 3);
        promise = 16;
        yes("relay", x.relay());
        at(x, 1, 0, 0);
        at(x, 2, 0, 4);
        line(x, 0, 0, 6, 2, 0, 4);
        due("MOVES", x.of(2, 18), 2);
        due("STOPPED", x.of(2, 12), 1);
        due("not moved", x.of(1, 18), 0);
        no("nothing gained", x.relay());
        promise = 15;
        due("nobody", x.pack(1), 0);

        // widest first; DOWN is left out; the column that it has, of several
        x = with(8);
        x.set(STOP, 0);
        job(x, 0, 1, 9, 0);
        job(x, 1, 1, 9, 0);
        job(x, 2, 4, 9, 0);
        job(x, 3, 2, 9, 0);
        at(x, 3, 0, 2);
        yes("move", x.move(1, 0));
        at(x, 1, 1, 0);
        due("LOAD", x.look(19), 2);
        // 2 stays at 4; 3 stays at 2; 0 stays at 0; 1 to column 1
        due("then", x.pack(0), 1);
        due("one", x.pack(1), 1);
        yes("down", x.down(1));
        due("column 1 is DOWN", x.pack(0), 2);
        due("GAIN", x.pack(2), 0);
        promise = 16;
        no("refused", x.relay());
        x.up(1);
        yes("relay", x.relay());
        at(x, 1, 0, 1);
    }

    private static void urging() {
        promise = 18;
        GangMatrix x = with(4);
        x.set(MOST, 1);
        due("none such", x.urged(0, 0), NONE);
        job(x, 0, 2, 10, 0);
        job(x, 1, 1, 10, 1);
        job(x, 2, 1, 10, 1);
        x.quantum(2);
        job(x, 3, 2, 5, 2);
        job(x, 4, 4, 5, 2);
        due("SLOT", x.urged(3, 0), 0);
        due("the fewest of the same LOSS", x.urged(3, 1), 0);
        due("one", x.urged(3, 2), 1);
        due("LOSS", x.urged(3, 3), 4);
        due("another what", x.urged(3, 4), NONE);
        due("another what", x.urged(3, -1), NONE);
        due("all of them", x.urged(4, 2), 3);
        due("LOSS", x.urged(4, 3), 8);
        due("PLACED", x.urged(0, 0), NONE);
        promise = 17;
        no("PLACED", x.urge(0));
        no("none such", x.urge(9));
        no("none such", x.urge(-1));
        yes("urge", x.urge(3));
        at(x, 3, 0, 0);
        due("put back", x.of(0, STATE), WAITING);
        due("LEFT", x.of(0, LEFT), 10);
        due("RESTARTS", x.of(0, 16), 1);
        due("WASTED", x.count(5), 4);
        line(x, 1, 2, 5, 0, 0, 0);
        line(x, 0, 2, 1, 3, 0, 0);
        due("first PLACED", x.of(3, 14), 2);
        due("as it came to wait", x.queue(1), 0);
        due("the slot has had its turns", x.slot(0, 3), 2);
        yes("urge the wide one", x.urge(4));
        due("the SLOT stays", x.slot(0, 3), 2);
        at(x, 4, 0, 0);
        line(x, 3, 2, 5, 1, 0, 2);
        line(x, 2, 2, 5, 2, 0, 3);
        line(x, 1, 2, 5, 3, 0, 0);

        // DOWN columns are no blocks for it; without a slot it is refused
        x = with(4);
        x.down(3);
        job(x, 0, 4, 9, 0);
        no("no SLOT", x.urge(0));
        promise = 18;
        due("no SLOT", x.urged(0, 0), NONE);
        x.kill(0);
        job(x, 1, 1, 9, 0);
        job(x, 2, 4, 9, 0);
        due("no BLOCK", x.urged(2, 0), NONE);
        promise = 17;
        no("no BLOCK", x.urge(2));
    }

    private static void thinning() {
        promise = 19;
        GangMatrix x = with(4);
        due("none", x.thin(0), 0);
        due("none", x.thin(2), 0);
        due("k", x.thin(3), NONE);
        due("k", x.thin(-1), NONE);
        x.set(STOP, 0);
        x.set(MOST, 8);
        for (int n = 0; n < 4; n++) {
            job(x, n, 1, 9, 0);
            if (n > 0) yes("move", x.move(n, 0));
        }
        due("LOAD 4", x.thin(0), 4);
        due("one elsewhere", x.thin(1), 3);
        due("two elsewhere", x.thin(2), 2);
        x.down(1);
        x.down(2);
        due("both to column 3", x.thin(2), 2);
        x.down(3);
        due("nowhere", x.thin(2), 4);
        x.up(1);
        due("one", x.thin(1), 3);
        x.up(2);
        x.up(3);
        for (int n = 4; n < 8; n++) job(x, n, 1, 9, 0);
        due("eight", x.thin(2) == NONE ? 1 : 0, 0);
        job(x, 8, 1, 9, 0);
        due("nine", x.thin(2), NONE);
        due("nine by one", x.thin(1) == NONE ? 1 : 0, 0);
    }

    private static void whereAndFree() {
        promise = 20;
        GangMatrix x = with(4);
        x.set(MOST, 2);
        due("a new SLOT", x.where(1, 0), 0);
        due("COLUMN", x.where(4, 1), 0);
        due("SIZE", x.where(0, 0), NONE);
        due("SIZE", x.where(5, 0), NONE);
        due("what", x.where(1, 2), NONE);
        due("what", x.where(1, -1), NONE);
        job(x, 0, 3, 9, 0);
        due("a new SLOT", x.where(1, 0), 1);
        job(x, 1, 1, 9, 0);
        due("the second SLOT", x.where(1, 0), 1);
        due("COLUMN", x.where(1, 1), 1);
        due("COLUMN", x.where(2, 1), 2);
        due("can't be", x.where(3, 0), NONE);
        due("nothing of it stays", x.look(16), 2);
        promise = 21;
        due("free of 1", x.free(1, 1, 0), 3);
        due("first of 1", x.free(1, 1, 1), 1);
        due("free of 2", x.free(1, 2, 0), 1);
        due("first of 2", x.free(1, 2, 1), 2);
        due("free of 4", x.free(1, 4, 0), 0);
        due("first of 4", x.free(1, 4, 1), NONE);
        due("none free", x.free(0, 1, 0), 0);
        due("slot", x.free(2, 1, 0), NONE);
        due("slot", x.free(-1, 1, 0), NONE);
        due("width 3", x.free(1, 3, 0), NONE);
        due("width 0", x.free(1, 0, 0), NONE);
        due("width 8", x.free(1, 8, 0), NONE);
        due("width", x.free(1, Integer.MIN_VALUE, 0), NONE);
        due("what", x.free(1, 1, 2), NONE);
        x.down(3);
        due("a DOWN one is not FREE", x.free(0, 1, 0), 2);
        due("nor its block", x.free(0, 2, 0), 0);
        GangMatrix y = new GangMatrix();
        y.set(P, 32);
        job(y, 0, 1, 9, 0);
        due("of 32", y.free(0, 1, 0), 31);
        due("of 32", y.free(0, 16, 0), 1);
        due("of 32", y.free(0, 16, 1), 16);
        due("of 32", y.free(0, 32, 0), 0);
    }

    private static void cellsAndLoads() {
        promise = 22;
        GangMatrix x = with(4);
        due("no SLOT", x.cell(0, 0), -2);
        due("no SLOT, no COLUMN", x.cell(0, 9), -2);
        job(x, 0, 3, 9, 0);
        job(x, 1, 1, 9, 0);
        due("in the BLOCK", x.cell(0, 3), 0);
        due("in the BLOCK", x.cell(1, 0), 1);
        due("in none", x.cell(1, 1), NONE);
        due("no COLUMN", x.cell(1, 4), -3);
        due("no COLUMN", x.cell(1, -1), -3);
        due("no SLOT", x.cell(2, 0), -2);
        due("no SLOT", x.cell(-1, 0), -2);
        promise = 23;
        due("LOAD", x.load(0), 2);
        due("LOAD of a BLOCK", x.load(3), 1);
        due("none such", x.load(4), NONE);
        due("none such", x.load(-1), NONE);
    }

    private static void ofJobs() {
        promise = 24;
        GangMatrix x = with(4);
        x.set(MOST, 1);
        x.quantum(2);
        job(x, 0, 3, 9, 5);
        job(x, 1, 2, 8, 4);
        due("job", x.job(1, 7, 3, 1), 2);
        int[][] want = {
            {3, 9, 5, NONE, PLACED, 9, 9, 0, 0, 4, 0, 0, 0, 2, 2, NONE, 0, 0, 0},
            {2, 8, 4, NONE, WAITING, 8, 8, NONE, NONE, 2, 0, 0, 0, 2, NONE, NONE, 0, 0, 0},
            {1, 7, 3, 1, HELD, 7, 7, NONE, NONE, 1, 0, 0, 0, 2, NONE, NONE, 0, 0, 0}};
        for (int j = 0; j < 3; j++)
            for (int k = 0; k < 19; k++) due("of(" + j + ", " + k + ")", x.of(j, k), want[j][k]);
        due("none such", x.of(3, 0), NONE);
        due("none such", x.of(-1, 0), NONE);
        due("what", x.of(0, 19), NONE);
        due("what", x.of(0, -1), NONE);
        due("done", x.quantum(10), 1);
        due("first PLACED", x.of(1, 14), 11);
        due("END", x.of(0, 15), 11);
        due("RAN", x.of(0, 10), 9);
        due("RAN", x.of(1, 10), 1);
    }

    private static void ofUsers() {
        promise = 25;
        GangMatrix x = with(4);
        x.set(MOST, 1);
        x.share(1, 4);
        job(x, 0, 4, 3, 0);
        job(x, 1, 4, 2, 1);
        due("HELD", x.job(1, 1, 1, 1), 2);
        job(x, 3, 1, 1, 1);
        x.kill(3);
        due("three of it, one KILLED", x.user(1, 2), 2);
        due("done", x.quantum(4), 1);
        due("SHARE", x.user(1, 0), 4);
        due("USED", x.user(0, 1), 12);
        due("USED", x.user(1, 1), 4);
        due("DONE", x.user(0, 3), 1);
        due("left", x.user(0, 2), 0);
        due("waited", x.user(1, 4), 3);
        // 16 used of all, shares 9 together: 16 * 4 / 9 = 7; 16 / 9 = 1
        due("OWED", x.user(1, 5), 3);
        due("OWED", x.user(0, 5), -11);
        due("OWED", x.user(5, 5), 1);
        due("none such", x.user(6, 0), -100000000);
        due("none such", x.user(-1, 0), -100000000);
        due("what", x.user(0, 6), -100000000);
        due("what", x.user(0, -1), -100000000);
    }

    private static void ofSlots() {
        promise = 26;
        GangMatrix x = with(8);
        x.share(2, 7);
        due("none", x.slot(0, 0), NONE);
        job(x, 0, 3, 9, 2);
        job(x, 1, 1, 9, 2);
        job(x, 2, 8, 9, 0);
        int[][] want = {{2, 14, 0, 0, 5, 4}, {1, 1, 0, 0, 8, 8}};
        for (int s = 0; s < 2; s++)
            for (int k = 0; k < 6; k++) due("slot(" + s + ", " + k + ")", x.slot(s, k), want[s][k]);
        x.quantum(1);
        due("PASS, cut", x.slot(0, 2), 71428);
        due("TURNS", x.slot(0, 3), 1);
        due("what", x.slot(0, 6), NONE);
        due("what", x.slot(0, -1), NONE);
        due("none such", x.slot(2, 0), NONE);
        due("none such", x.slot(-1, 0), NONE);
        x.kill(2);
        due("the least is its own", x.slot(0, 2), 0);
    }

    private static void theQueue() {
        promise = 27;
        GangMatrix x = with(4);
        x.set(MOST, 1);
        x.share(2, 3);
        due("none", x.queue(0), NONE);
        job(x, 0, 1, 3, 1);
        job(x, 1, 1, 2, 2);
        due("done", x.quantum(3), 2);
        // USED 3 by 1, 2 by 3
        job(x, 2, 4, 9, 0);
        job(x, 3, 4, 9, 1);
        job(x, 4, 4, 9, 2);
        job(x, 5, 4, 9, 1);
        job(x, 6, 4, 9, 3);
        int[] came = {3, 4, 5, 6, NONE};
        for (int i = 0; i < 5; i++) due("as they came", x.queue(i), came[i]);
        due("before the first", x.queue(-1), NONE);
        x.set(ORDER, 1);
        int[] ratio = {6, 4, 3, 5, NONE};
        for (int i = 0; i < 5; i++) due("by RATIO", x.queue(i), ratio[i]);
        due("put back", x.down(0) ? 1 : 0, 1);
        x.set(ORDER, 0);
        due("behind all", x.queue(4), 2);
    }

    private static void inThought() {
        promise = 29;
        GangMatrix x = with(4);
        x.set(MOST, 1);
        job(x, 0, 3, 2, 0);
        job(x, 1, 4, 3, 0);
        job(x, 2, 4, 900, 0);
        due("later", x.later(3, 1, 1, 0), 1);
        due("n", x.would(0, 0), NONE);
        due("n", x.would(101, 0), NONE);
        due("what", x.would(1, 5), NONE);
        due("what", x.would(1, -1), NONE);
        due("DONE", x.would(5, 0), 2);
        due("USED", x.would(5, 1), 2 * 3 + 3 * 4);
        due("idle", x.would(5, 2), 2);
        due("SLOTS", x.would(5, 3), 1);
        due("WAITING, the arrival too", x.would(5, 4), 1);
        due("WAITING", x.would(1, 4), 2);
        due("a hundred", x.would(100, 0), 2);
        due("TIME stays", x.look(10), 0);
        due("LEFT stays", x.of(0, LEFT), 2);
        due("lines stay", x.look(22), 4);
        due("quanta stay", x.went(0, 0), NONE);
        promise = 30;
        due("the first", x.when(0), 2);
        due("the next", x.when(1), 5);
        due("not by 300", x.when(2), NONE);
        due("not yet a JOB", x.when(3), NONE);
        due("none such", x.when(-1), NONE);
        due("none such", x.when(60), NONE);
        x.quantum(2);
        due("DONE", x.when(0), 2);
        x.kill(2);
        due("KILLED", x.when(2), NONE);
        due("TIME", x.look(10), 2);
        job(x, 3, 4, 294, 0);
        due("the arrival goes behind", x.when(3), 299);
        job(x, 4, 4, 3, 0);
        job(x, 5, 4, 1, 0);
        due("the arrival is last", x.when(4), 302);
        due("one too late", x.when(5), NONE);
    }

    private static void theLog() {
        promise = 31;
        GangMatrix x = with(4);
        due("none", x.log(0, 0), NONE);
        x.quantum(3);
        job(x, 0, 2, 1, 0);
        line(x, 1, 3, 0, 0, NONE, NONE);
        line(x, 0, 3, 1, 0, 0, 0);
        due("no third", x.log(2, 0), NONE);
        due("before the latest", x.log(-1, 0), NONE);
        due("what", x.log(0, 5), NONE);
        due("what", x.log(0, -1), NONE);
        x.quantum(1);
        line(x, 0, 4, 3, 0, 0, 0);
        for (int n = 1; n < 30; n++) {
            job(x, n, 1, 99, 0);
            due("kill", x.kill(n), 1);
        }
        due("all that came", x.look(22), 3 + 29 * 3);
        due("the 60th", x.log(59, 2), 10);
        due("its what", x.log(59, 1), 0);
        due("no more", x.log(60, 0), NONE);
        due("the latest", x.log(0, 2), 29);
    }

    private static void whatWent() {
        promise = 32;
        GangMatrix x = with(4);
        due("none", x.went(0, 0), NONE);
        x.quantum(1);
        due("no SLOT", x.went(0, 0), NONE);
        due("no USED", x.went(0, 3), 0);
        job(x, 0, 3, 99, 0);
        job(x, 1, 1, 99, 0);
        x.quantum(2);
        due("the latest", x.went(0, 0), 1);
        due("one ran", x.went(0, 1), 1);
        due("none by (d)", x.went(0, 2), 0);
        due("USED", x.went(0, 3), 1);
        due("the one before", x.went(1, 0), 0);
        due("USED", x.went(1, 3), 3);
        due("the first", x.went(2, 1), 0);
        due("no more", x.went(3, 1), NONE);
        due("what", x.went(0, 4), NONE);
        due("what", x.went(0, -1), NONE);
        due("before the latest", x.went(-1, 0), NONE);
        x.quantum(60);
        due("the 60th", x.went(59, 1), 1);
        due("no more", x.went(60, 1), NONE);
    }

    private static void counts() {
        promise = 33;
        GangMatrix x = with(4);
        for (int k = 0; k <= 10; k++) due("at first", x.count(k), 0);
        due("what", x.count(11), NONE);
        due("what", x.count(-1), NONE);
        x.set(STOP, 0);
        job(x, 0, 3, 9, 0);
        job(x, 1, 1, 9, 1);
        yes("move", x.move(1, 3));
        x.quantum(2);
        yes("down", x.down(3));
        x.quantum(1);
        // two quanta with 4 used, by (c) and (d); then the wide one can't be and the other waits behind it
        counted(x, 8, 0, 0, 3, 1, 3 * 2 + 1 * 2, 1, 0, 2, 0, 2);
        due("none is PLACED", x.look(16), 0);
    }

    private static void theImage() {
        promise = 34;
        GangMatrix x = with(8);
        no("none", x.image(false));
        job(x, 0, 3, 5, 0);
        x.later(4, 1, 1, 1);
        x.share(3, 5);
        x.down(7);
        yes("taken", x.image(true));
        for (int round = 0; round < 2; round++) {
            job(x, 1, 2, 5, 2);
            x.kill(0);
            x.set(MOST, 7);
            x.share(3, 2);
            x.up(7);
            x.quantum(10);
            yes("gone back to", x.image(false));
            due("TIME", x.look(10), 0);
            due("JOBS", x.look(11), 1);
            due("ARRIVALS", x.look(12), 1);
            due("MOST", x.look(1), 4);
            due("SHARE", x.user(3, 0), 5);
            due("DOWN", x.look(21), 1);
            due("PLACED", x.of(0, STATE), PLACED);
            due("lines", x.look(22), 2);
            due("the latest line", x.log(0, 1), 1);
            due("no QUANTUM", x.went(0, 0), NONE);
            due("USED", x.user(0, 1), 0);
            due("no COLUMN counted", x.count(3), 0);
            due("all goes on", x.when(0), 5);
        }
        x.quantum(2);
        yes("taken anew", x.image(true));
        x.quantum(3);
        yes("gone back to", x.image(false));
        due("TIME", x.look(10), 2);
        due("LEFT", x.of(0, LEFT), 3);
    }

    private static void looking() {
        promise = 35;
        GangMatrix x = with(8);
        x.set(MOST, 2);
        job(x, 0, 2, 1, 0);
        job(x, 1, 8, 9, 0);
        job(x, 2, 8, 9, 0);
        due("HELD", x.job(1, 1, 0, 2), 3);
        job(x, 4, 1, 9, 0);
        x.later(9, 1, 1, 0);
        x.quantum(1);
        x.kill(4);
        int[] want = {1, 5, 1, 2, 0, 1, 2, 1, 1, 2, 0, 0};
        for (int k = 0; k < want.length; k++) due("look(" + (10 + k) + ")", x.look(10 + k), want[k]);
        x.down(6);
        due("DOWN", x.look(21), 1);
        due("put back", x.look(14), 2);
        due("what", x.look(23), -100000000);
        due("what", x.look(-1), -100000000);
        x = with(8);
        job(x, 0, 4, 9, 0);
        job(x, 1, 4, 9, 0);
        job(x, 2, 4, 9, 0);
        yes("move", x.move(2, 4));
        due("the greatest LOAD", x.look(19), 2);
        due("the first COLUMN with it", x.look(20), 4);
    }
}
