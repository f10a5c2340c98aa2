/** Edges that ==== 1 of the document names: what can be told, users, jobs, blocks, slots. */
public final class EdgesOfMatrixTest {
    public static void main(String[] args) {
        runAll();
        Edges.end("edges of ==== 1");
    }

    static void runAll() {
        columns();
        sixteenAtFirst();
        fourSizesOfP();
        pWithoutAJob();
        pWithoutAnArrival();
        noneDownThen();
        most();
        fit();
        order();
        backfill();
        patience();
        stop();
        save();
        alternates();
        auto();
        timeAtFirst();
        users();
        shares();
        sixtyJobs();
        sixtyArrivals();
        sixtyTogether();
        endedOnesCount();
        sixtyAreAsked();
        sixtyAreMoved();
        sixtiethIsMoved();
        sizes();
        works();
        afters();
        heldOnes();
        jobAtFirst();
        widths();
        blocksAreMultiples();
        cellsAreTheFirst();
        noSharedColumn();
        noneThatIsDown();
        emptySlotGoes();
        emptySlotsGoTogether();
        passOfANewSlot();
        weights();
    }

    private static void columns() {
        Edges.sentence("COLUMNS 0 .. p less 1");
        for (int p : Edges.ALL_P) {
            GangMatrix x = Edges.with(p);
            Edges.only("load of column", x::load, 0, p - 1, Edges.NONE);
            Edges.no("a column below 0", x.down(-1));
            Edges.no("column p", x.down(p));
            Edges.yes("the last column", x.down(p - 1));
            Edges.no("a column below 0", x.up(-1));
            Edges.no("column p", x.up(p));
            Edges.yes("the last column", x.up(p - 1));
            Edges.job(x, 0, p, 9, 0);
            Edges.only("cell in column", c -> x.cell(0, c), 0, p - 1, -3);
        }
    }

    private static void sixteenAtFirst() {
        Edges.sentence("p 16 at first");
        GangMatrix x = new GangMatrix();
        Edges.due("p", x.look(0), 16);
        Edges.due("the last column", x.load(15), 0);
        Edges.due("no column", x.load(16), Edges.NONE);
        Edges.due("too large for it", x.job(17, 1, 0, Edges.NONE), Edges.NONE);
        Edges.job(x, 0, 16, 1, 0);
        Edges.at(x, 0, 0, 0);
    }

    private static void fourSizesOfP() {
        Edges.sentence("4, 8, 16, 32 can be told");
        GangMatrix x = new GangMatrix();
        int told = 16;
        for (int v = -33; v <= 129; v++) {
            boolean can = v == 4 || v == 8 || v == 16 || v == 32;
            Edges.due("set(0, " + v + ")", x.set(Edges.P, v) ? 1 : 0, can ? 1 : 0);
            told = can ? v : told;
            Edges.due("p as told last", x.look(0), told);
        }
        Edges.no("far below", x.set(Edges.P, Edges.LOWEST));
        Edges.no("far above", x.set(Edges.P, 1 << 30));
        Edges.no("far above", x.set(Edges.P, Edges.HIGHEST));
        Edges.due("p as told last", x.look(0), 32);
    }

    private static void pWithoutAJob() {
        Edges.sentence("(p) can be told while there is no JOB");
        GangMatrix x = new GangMatrix();
        Edges.due("refused, so no JOB", x.job(17, 1, 0, Edges.NONE), Edges.NONE);
        Edges.yes("no JOB yet", x.set(Edges.P, 4));
        Edges.job(x, 0, 4, 1, 0);
        refusesP(x, "PLACED");
        Edges.due("done", x.quantum(1), 1);
        refusesP(x, "DONE");
        x = Edges.with(4);
        Edges.yes("down", x.down(0));
        Edges.job(x, 0, 4, 1, 0);
        refusesP(x, "WAITING");
        Edges.due("killed", x.kill(0), 1);
        refusesP(x, "KILLED");
        Edges.due("the column is still DOWN", x.look(21), 1);
    }

    private static void refusesP(GangMatrix x, String state) {
        for (int p : Edges.ALL_P) Edges.no("p " + p + " with a JOB that is " + state, x.set(Edges.P, p));
        Edges.due("p", x.look(0), 4);
    }

    private static void pWithoutAnArrival() {
        Edges.sentence("(p can be told while there is) no ARRIVAL");
        GangMatrix x = Edges.with(4);
        Edges.yes("taken", x.image(true));
        Edges.due("an arrival", x.later(1, 4, 1, 0), 1);
        Edges.no("with an ARRIVAL", x.set(Edges.P, 8));
        x.quantum(1);
        Edges.due("yet to come", x.look(12), 1);
        Edges.no("with an ARRIVAL", x.set(Edges.P, 8));
        x.quantum(1);
        Edges.due("it came", x.look(12), 0);
        Edges.no("it is a JOB now", x.set(Edges.P, 8));
        Edges.yes("gone back to", x.image(false));
        Edges.yes("neither JOB nor ARRIVAL", x.set(Edges.P, 8));
        Edges.due("p", x.look(0), 8);
    }

    private static void noneDownThen() {
        Edges.sentence("no COLUMN is DOWN then");
        GangMatrix x = new GangMatrix();
        for (int c = 0; c < 16; c++) Edges.yes("down", x.down(c));
        Edges.no("refused", x.set(Edges.P, 12));
        Edges.yes("another what", x.set(Edges.MOST, 4));
        Edges.due("all are DOWN still", x.look(21), 16);
        Edges.yes("the same p", x.set(Edges.P, 16));
        Edges.due("none is DOWN", x.look(21), 0);
        Edges.no("it is not DOWN", x.up(0));
        Edges.yes("down", x.down(15));
        Edges.yes("fewer columns", x.set(Edges.P, 4));
        Edges.due("none is DOWN", x.look(21), 0);
        Edges.yes("more columns", x.set(Edges.P, 32));
        Edges.no("it is not DOWN", x.up(15));
        Edges.job(x, 0, 32, 1, 0);
        Edges.at(x, 0, 0, 0);
    }

    /** What can be told lies between the least and the most; what is refused leaves what was told. */
    private static void told(int what, int least, int most, int atFirst) {
        GangMatrix x = new GangMatrix();
        Edges.due("at first", x.look(what), atFirst);
        for (int v : new int[] {least - 1, most + 1, Edges.LOWEST, Edges.HIGHEST}) {
            Edges.no("set(" + what + ", " + v + ")", x.set(what, v));
            Edges.due("as it was", x.look(what), atFirst);
        }
        for (int v = least; v <= most; v++) {
            Edges.yes("set(" + what + ", " + v + ")", x.set(what, v));
            Edges.due("as told", x.look(what), v);
        }
        Edges.no("refused", x.set(what, most + 1));
        Edges.due("as told", x.look(what), most);
    }

    private static void most() {
        Edges.sentence("MOST 1 .. 8 (4 at first)");
        told(Edges.MOST, 1, 8, 4);
        for (int most : new int[] {1, 4, 8}) {
            GangMatrix x = Edges.with(4);
            if (most != 4) Edges.yes("MOST", x.set(Edges.MOST, most));
            for (int j = 0; j < most; j++) {
                Edges.job(x, j, 4, 9, 0);
                Edges.at(x, j, j, 0);
            }
            Edges.job(x, most, 4, 9, 0);
            Edges.state(x, most, Edges.WAITING);
            Edges.due("SLOTS", x.look(13), most);
        }
    }

    private static void fit() {
        Edges.sentence("FIT 0 .. 2 (0)");
        told(Edges.FIT, 0, 2, 0);
        GangMatrix x = Edges.with(8);
        x.set(Edges.STOP, 0);
        Edges.job(x, 0, 8, 9, 0);
        Edges.job(x, 1, 4, 9, 0);
        Edges.job(x, 2, 4, 9, 0);
        Edges.job(x, 3, 1, 9, 0);
        Edges.yes("move", x.move(3, 4));
        Edges.due("killed", x.kill(2) + x.kill(0), 2);
        // slot 0: job 1 in columns 0 to 3; slot 1: job 3 in column 4
        int[][] where = {{0, 4}, {1, 5}, {0, 5}};
        for (int fit = 0; fit <= 2; fit++) {
            if (fit > 0) Edges.yes("FIT", x.set(Edges.FIT, fit));
            Edges.due("SLOT by FIT " + fit, x.where(1, 0), where[fit][0]);
            Edges.due("COLUMN by FIT " + fit, x.where(1, 1), where[fit][1]);
        }
    }

    private static void order() {
        Edges.sentence("ORDER 0, 1 (0)");
        told(Edges.ORDER, 0, 1, 0);
        GangMatrix x = Edges.with(4);
        x.set(Edges.MOST, 1);
        Edges.job(x, 0, 4, 9, 0);
        x.quantum(1);
        Edges.job(x, 1, 4, 9, 0);
        Edges.job(x, 2, 4, 9, 1);
        Edges.queue(x, 1, 2);
        Edges.yes("ORDER", x.set(Edges.ORDER, 1));
        Edges.queue(x, 2, 1);
        Edges.yes("ORDER", x.set(Edges.ORDER, 0));
        Edges.queue(x, 1, 2);
    }

    private static void backfill() {
        Edges.sentence("BACKFILL 0 .. 9 (0)");
        told(Edges.BACKFILL, 0, 9, 0);
        // the first of the queue and those behind it are too wide, but for the tenth and eleventh of it
        GangMatrix x = Edges.with(8);
        x.set(Edges.MOST, 1);
        Edges.job(x, 0, 4, 9, 0);
        for (int j = 1; j <= 9; j++) Edges.job(x, j, 8, 9, 0);
        Edges.job(x, 10, 1, 9, 0);
        Edges.job(x, 11, 1, 9, 0);
        Edges.due("none may pass by", x.look(14), 11);
        Edges.yes("eight may", x.set(Edges.BACKFILL, 8));
        Edges.due("the ninth behind is not tried", x.look(14), 11);
        Edges.yes("nine may", x.set(Edges.BACKFILL, 9));
        Edges.at(x, 10, 0, 4);
        Edges.state(x, 11, Edges.WAITING);
    }

    /** A job that fails from column to column is placed by BACKFILL each time, until PATIENCE is out. */
    private static void patience() {
        Edges.sentence("PATIENCE 0 .. 99 (10)");
        told(Edges.PATIENCE, 0, 99, 10);
        for (int patience : new int[] {0, 10, 99}) {
            GangMatrix x = Edges.with(4);
            x.set(Edges.MOST, 1);
            x.set(Edges.BACKFILL, 9);
            if (patience != 10) Edges.yes("PATIENCE", x.set(Edges.PATIENCE, patience));
            Edges.job(x, 0, 1, 9, 0);
            Edges.job(x, 1, 4, 9, 0);
            Edges.job(x, 2, 1, 9, 0);
            for (int n = 1; n < patience; n++) {
                int c = 1 + (n - 1) % 2;
                Edges.due("passed by " + n + " times", x.of(2, Edges.COLUMN), c);
                x.down(c);
                x.up(c);
            }
            Edges.due("PASSED", x.of(1, Edges.PASSED), patience);
            Edges.state(x, 2, patience == 0 ? Edges.WAITING : Edges.PLACED);
            if (patience > 0) x.down(x.of(2, Edges.COLUMN));
            Edges.state(x, 2, Edges.WAITING);
            Edges.due("PASSED", x.of(1, Edges.PASSED), patience);
        }
    }

    private static void stop() {
        Edges.sentence("STOP 0 .. 9 (1)");
        told(Edges.STOP, 0, 9, 1);
        int[] stops = {1, 0, 9};
        int[][] stopped = {{1, 1}, {0, 0}, {3, 9}};
        for (int i = 0; i < stops.length; i++) {
            GangMatrix x = Edges.with(8);
            if (stops[i] != 1) Edges.yes("STOP", x.set(Edges.STOP, stops[i]));
            Edges.job(x, 0, 1, 9, 0);
            Edges.yes("move", x.move(0, 1));
            Edges.job(x, 1, 4, 9, 0);
            Edges.yes("move", x.move(1, 0));
            Edges.due("STOPPED of size 1", x.of(0, Edges.STOPPED), stopped[i][0]);
            Edges.due("STOPPED of size 4", x.of(1, Edges.STOPPED), stopped[i][1]);
        }
    }

    private static void save() {
        Edges.sentence("SAVE 0 .. 99 (0)");
        told(Edges.SAVE, 0, 99, 0);
        int[] saves = {0, 1, 99};
        int[] keptBefore = {200, 102, 200};
        int[] keptThen = {200, 101, 101};
        int[] keptBehind = {200, 100, 101};
        for (int i = 0; i < saves.length; i++) {
            GangMatrix x = Edges.with(4);
            if (saves[i] != 0) Edges.yes("SAVE", x.set(Edges.SAVE, saves[i]));
            Edges.job(x, 0, 4, 200, 0);
            x.quantum(98);
            Edges.due("KEPT", x.of(0, Edges.KEPT), keptBefore[i]);
            x.quantum(1);
            Edges.due("KEPT", x.of(0, Edges.KEPT), keptThen[i]);
            x.quantum(1);
            Edges.due("KEPT", x.of(0, Edges.KEPT), keptBehind[i]);
        }
    }

    private static void alternates() {
        Edges.sentence("ALTERNATES 0, 1 (1)");
        told(Edges.ALTERNATES, 0, 1, 1);
        GangMatrix x = Edges.with(4);
        x.set(Edges.STOP, 0);
        Edges.job(x, 0, 3, 9, 0);
        Edges.job(x, 1, 1, 9, 0);
        Edges.yes("beside the cells", x.move(1, 3));
        x.quantum(1);
        Edges.due("lent to", x.of(1, Edges.EXTRA), 1);
        Edges.yes("ALTERNATES", x.set(Edges.ALTERNATES, 0));
        x.quantum(2);
        Edges.due("lent to no more", x.of(1, Edges.EXTRA), 1);
        Edges.due("nor the other", x.of(0, Edges.EXTRA), 0);
    }

    private static void auto() {
        Edges.sentence("AUTO 0, 1 (1)");
        told(Edges.AUTO, 0, 1, 1);
        GangMatrix x = new GangMatrix();
        x.set(Edges.P, 4);
        for (int j = 0; j < 4; j++) Edges.job(x, j, 2, 9, 0);
        x.kill(1);
        x.kill(2);
        Edges.due("not by a call", x.look(13), 2);
        Edges.yes("AUTO", x.set(Edges.AUTO, 0));
        x.quantum(1);
        Edges.due("not with AUTO 0", x.look(13), 2);
        Edges.yes("AUTO", x.set(Edges.AUTO, 1));
        Edges.due("not by telling it", x.look(13), 2);
        x.quantum(1);
        Edges.due("unified", x.look(13), 1);
    }

    private static void timeAtFirst() {
        Edges.sentence("TIME is 0 at first");
        GangMatrix x = new GangMatrix();
        Edges.due("TIME", x.look(10), 0);
        Edges.job(x, 0, 1, 1, 0);
        Edges.due("it came at", x.of(0, Edges.CAME), 0);
        Edges.due("below 0", x.later(-1, 1, 1, 0), Edges.NONE);
        Edges.due("now", x.later(0, 1, 1, 0), 1);
    }

    private static void users() {
        Edges.sentence("USERS 0 .. 5");
        GangMatrix x = new GangMatrix();
        Edges.only("a job of user", u -> x.job(1, 1, u, Edges.NONE), 0, 5, Edges.NONE);
        Edges.only("an arrival of user", u -> x.later(9, 1, 1, u), 0, 5, Edges.NONE);
        Edges.only("share of user", u -> x.share(u, 2) ? 1 : 0, 0, 5, 0);
        Edges.only("of user", u -> x.user(u, 0), 0, 5, Edges.NO_SUCH);
        Edges.due("jobs of both ends", x.user(0, 2) + x.user(5, 2), 2);
    }

    private static void shares() {
        Edges.sentence("SHARE 1 .. 9 (1 at first; told), USED (0 at first)");
        GangMatrix x = new GangMatrix();
        for (int u = 0; u < 6; u++) {
            int user = u;
            Edges.due("SHARE at first", x.user(u, 0), 1);
            Edges.due("USED at first", x.user(u, 1), 0);
            Edges.only("share", v -> x.share(user, v) ? 1 : 0, 1, 9, 0);
            Edges.due("as told last", x.user(u, 0), 9);
            Edges.no("refused", x.share(u, 0));
            Edges.due("as told", x.user(u, 0), 9);
        }
    }

    private static void sixtyJobs() {
        Edges.sentence("JOBS .. with ARRIVALS that are yet to come 60 at most: jobs alone");
        GangMatrix x = Edges.with(4);
        for (int j = 0; j < 60; j++) {
            Edges.due("refused", x.job(5, 1, 0, Edges.NONE), Edges.NONE);
            Edges.job(x, j, 1, 9, 0);
        }
        Edges.due("the 61st", x.job(1, 9, 0, Edges.NONE), Edges.NONE);
        Edges.due("an arrival", x.later(5, 1, 9, 0), Edges.NONE);
        Edges.due("JOBS", x.look(11), 60);
        Edges.due("the last", x.of(59, 1), 9);
        Edges.due("none such", x.of(60, 1), Edges.NONE);
    }

    private static void sixtyArrivals() {
        Edges.sentence("JOBS .. with ARRIVALS that are yet to come 60 at most: arrivals alone");
        GangMatrix x = Edges.with(4);
        for (int n = 1; n <= 60; n++) Edges.due("yet to come", x.later(n, 1, 1, 0), n);
        Edges.due("the 61st", x.later(9, 1, 1, 0), Edges.NONE);
        Edges.due("a job", x.job(1, 1, 0, Edges.NONE), Edges.NONE);
        Edges.due("ARRIVALS", x.look(12), 60);
        x.quantum(61);
        Edges.due("all came", x.look(11), 60);
        Edges.due("none is yet to come", x.look(12), 0);
        Edges.due("the last came at", x.of(59, Edges.CAME), 60);
        Edges.due("they count as JOBS now", x.later(99, 1, 1, 0), Edges.NONE);
        Edges.due("they count as JOBS now", x.job(1, 1, 0, Edges.NONE), Edges.NONE);
    }

    private static void sixtyTogether() {
        Edges.sentence("JOBS .. with ARRIVALS that are yet to come 60 at most: both together");
        GangMatrix x = Edges.with(4);
        for (int n = 1; n <= 30; n++) Edges.due("yet to come", x.later(0, 1, 1, 0), n);
        for (int j = 0; j < 29; j++) Edges.job(x, j, 1, 1, 0);
        Edges.due("59: one more can come", x.later(0, 1, 1, 0), 31);
        Edges.due("60", x.later(0, 1, 1, 0), Edges.NONE);
        Edges.due("60", x.job(1, 1, 0, Edges.NONE), Edges.NONE);
        x.quantum(1);
        Edges.due("all are JOBS", x.look(11), 60);
        Edges.due("60", x.job(1, 1, 0, Edges.NONE), Edges.NONE);
    }

    private static void endedOnesCount() {
        Edges.sentence("JOBS (by numbers, as they came): those DONE and KILLED are among the 60");
        GangMatrix x = Edges.with(4);
        for (int j = 0; j < 60; j++) Edges.job(x, j, 1, 1, 0);
        for (int j = 0; j < 30; j++) Edges.due("killed", x.kill(j), 1);
        Edges.due("done", x.quantum(20), 30);
        Edges.due("none is left", x.look(13), 0);
        Edges.due("the numbers are used up", x.job(1, 1, 0, Edges.NONE), Edges.NONE);
        Edges.due("the numbers are used up", x.later(50, 1, 1, 0), Edges.NONE);
    }

    /** All sixty came: 0 to 31 are in the cells of eight slots, the others wait. */
    private static GangMatrix full() {
        GangMatrix x = Edges.with(4);
        x.set(Edges.MOST, 8);
        x.set(Edges.STOP, 0);
        for (int j = 0; j < 60; j++) Edges.job(x, j, 1, 9, j % 6);
        return x;
    }

    private static void sixtyAreAsked() {
        Edges.sentence("JOBS .. 60 at most: each question is answered with as many");
        GangMatrix x = full();
        int[] looked = {0, 60, 0, 8, 28, 0, 32, 0, 0, 8, 0, 0, 92};
        for (int k = 0; k < looked.length; k++) Edges.due("look(" + (10 + k) + ")", x.look(10 + k), looked[k]);
        Edges.due("cell", x.cell(7, 3), 31);
        Edges.due("JOBS of a SLOT", x.slot(7, 0), 4);
        Edges.due("WEIGHT", x.slot(7, 1), 4);
        Edges.due("CELLS", x.slot(7, 5), 4);
        Edges.due("left of a USER", x.user(5, 2), 10);
        Edges.due("none had to wait", x.user(5, 4), 0);
        Edges.due("the last of THE QUEUE", x.queue(27), 59);
        Edges.due("none is lent to", x.lends(0, Edges.NONE), 0);
        int[] weighed = {0, -1, -36, 0, 0};
        for (int k = 0; k < 5; k++) Edges.due("weigh(31, " + k + ")", x.weigh(31, k), weighed[k]);
        int[] packed = {8, 0, 0, 0};
        for (int k = 0; k < 4; k++) Edges.due("pack(" + k + ")", x.pack(k), packed[k]);
        int[] urged = {0, 0, 1, 0};
        for (int k = 0; k < 4; k++) Edges.due("urged(59, " + k + ")", x.urged(59, k), urged[k]);
        Edges.due("thin", x.thin(1), 8);
        Edges.due("no place", x.where(1, 0), Edges.NONE);
        Edges.due("none is DONE by 64", x.would(64, 0), 0);
        Edges.due("four by 65", x.would(65, 0), 4);
        Edges.due("four by 65", x.when(3), 65);
        Edges.due("cell of none", x.kill(31) + x.kill(32), 2);
        Edges.due("the next of THE QUEUE", x.cell(7, 3), 33);
    }

    private static void sixtyAreMoved() {
        Edges.sentence("JOBS .. 60 at most: each change is done with as many");
        GangMatrix x = full();
        Edges.no("move", x.move(31, 0));
        Edges.no("migrate", x.migrate(31));
        Edges.no("relay", x.relay());
        Edges.due("unify", x.unify(), 0);
        Edges.due("repack", x.repack(), 8);
        Edges.yes("urge", x.urge(59));
        Edges.at(x, 59, 0, 0);
        Edges.due("the last of THE QUEUE", x.queue(27), 0);
        Edges.yes("down", x.down(3));
        Edges.due("eight are put back", x.look(14), 36);
        Edges.due("column 3 is nobody's", x.cell(0, 3), Edges.NONE);
        Edges.due("the last of THE QUEUE", x.queue(35), 31);
        Edges.yes("up", x.up(3));
        Edges.due("the first of it are PLACED", x.look(14), 28);
        for (int j = 4; j < 32; j += 4) Edges.due("kill", x.kill(j), 1);
        Edges.due("killed", x.kill(1) + x.kill(2), 2);
        Edges.yes("taken", x.image(true));
        Edges.due("done", x.quantum(100) + x.quantum(100) + x.quantum(100), 51);
        Edges.due("DONE and KILLED", x.look(17) + x.look(18), 60);
        Edges.yes("gone back to", x.image(false));
        Edges.due("DONE and KILLED", x.look(17) + x.look(18), 9);
    }

    private static void sixtiethIsMoved() {
        Edges.sentence("JOBS .. 60 at most: the last of as many is moved");
        GangMatrix x = Edges.with(4);
        x.set(Edges.STOP, 0);
        for (int j = 0; j < 60; j++) {
            Edges.job(x, j, 2, 9, 0);
            if (j < 56) Edges.due("killed", x.kill(j), 1);
        }
        Edges.due("killed", x.kill(57) + x.kill(58), 2);
        Edges.due("unify", x.unify(), 1);
        Edges.at(x, 59, 0, 2);
        Edges.yes("move", x.move(59, 0));
        Edges.at(x, 59, 1, 0);
        Edges.due("thin by one", x.thin(1), 1);
        Edges.due("thin by two", x.thin(2), 1);
        Edges.yes("migrate", x.migrate(59));
        Edges.at(x, 59, 0, 2);
        Edges.yes("move", x.move(59, 0));
        Edges.yes("relay", x.relay());
        Edges.at(x, 59, 0, 2);
        Edges.yes("down", x.down(3));
        Edges.at(x, 59, 1, 0);
        x.quantum(18);
        Edges.due("END", x.of(56, Edges.END), 17);
        Edges.due("END", x.of(59, Edges.END), 18);
    }

    private static void sizes() {
        Edges.sentence("SIZE 1 .. p");
        for (int p : Edges.ALL_P) {
            GangMatrix x = Edges.with(p);
            Edges.only("job of size", s -> x.job(s, 1, 0, Edges.NONE), 1, p, Edges.NONE);
            Edges.only("arrival of size", s -> x.later(9, s, 1, 0), 1, p, Edges.NONE);
            Edges.due("JOBS", x.look(11), 2);
            Edges.due("ARRIVALS", x.look(12), 2);
            Edges.due("SIZE", x.of(1, 0), p);
        }
    }

    private static void works() {
        Edges.sentence("WORK 1 .. 9999");
        GangMatrix x = Edges.with(4);
        Edges.only("job of work", w -> x.job(1, w, 0, Edges.NONE), 1, 9999, Edges.NONE);
        Edges.only("arrival of work", w -> x.later(9, 1, w, 0), 1, 9999, Edges.NONE);
        Edges.due("WORK", x.of(1, 1), 9999);
        Edges.due("done by one quantum", x.quantum(1), 1);
        Edges.state(x, 0, Edges.DONE);
        Edges.due("LEFT", x.of(1, Edges.LEFT), 9998);
    }

    private static void afters() {
        Edges.sentence("AFTER (a JOB, not KILLED, or none)");
        GangMatrix x = Edges.with(4);
        Edges.due("no JOB yet", x.job(1, 1, 0, 0), Edges.NONE);
        Edges.job(x, 0, 4, 1, 0);
        for (int after : new int[] {-2, 1, 2, 59, 60, Edges.LOWEST, Edges.HIGHEST}) {
            Edges.due("behind " + after, x.job(1, 1, 0, after), Edges.NONE);
        }
        Edges.held(x, 1, 1, 1, 0);
        Edges.held(x, 2, 1, 1, 1);
        Edges.due("killed", x.kill(2), 1);
        Edges.due("behind one that is KILLED", x.job(1, 1, 0, 2), Edges.NONE);
        Edges.due("AFTER", x.of(1, 3), 0);
        Edges.due("no AFTER", x.of(0, 3), Edges.NONE);
        Edges.due("JOBS", x.look(11), 3);
    }

    private static void heldOnes() {
        Edges.sentence("0 HELD (its AFTER is not DONE), 1 WAITING");
        GangMatrix x = Edges.with(4);
        x.set(Edges.MOST, 1);
        Edges.job(x, 0, 4, 1, 0);
        Edges.job(x, 1, 4, 1, 0);
        Edges.held(x, 2, 1, 1, 0);
        Edges.held(x, 3, 1, 1, 1);
        Edges.held(x, 4, 1, 1, 2);
        for (int j = 2; j <= 4; j++) Edges.state(x, j, Edges.HELD);
        Edges.queue(x, 1);
        Edges.due("done", x.quantum(1), 1);
        Edges.held(x, 5, 4, 1, 0);
        Edges.state(x, 5, Edges.WAITING);
        Edges.queue(x, 2, 5);
        Edges.state(x, 4, Edges.HELD);
    }

    private static void jobAtFirst() {
        Edges.sentence("LEFT and KEPT: WORK at first. RAN, EXTRA, STOPPED, RESTARTS, PASSED, MOVES: 0 at first");
        GangMatrix x = Edges.with(4);
        Edges.yes("down", x.down(3));
        Edges.job(x, 0, 4, 77, 3);
        Edges.due("arrival", x.later(0, 4, 88, 4), 1);
        x.quantum(1);
        for (int j = 0; j < 2; j++) {
            Edges.due("LEFT", x.of(j, Edges.LEFT), j == 0 ? 77 : 88);
            Edges.due("KEPT", x.of(j, Edges.KEPT), j == 0 ? 77 : 88);
            int[] none = {Edges.RAN, Edges.EXTRA, Edges.STOPPED, Edges.RESTARTS, Edges.PASSED, Edges.MOVES};
            for (int k : none) Edges.due("of(" + j + ", " + k + ")", x.of(j, k), 0);
            Edges.due("END", x.of(j, Edges.END), Edges.NONE);
            Edges.due("first PLACED", x.of(j, Edges.FIRST), Edges.NONE);
        }
    }

    private static void widths() {
        Edges.sentence("WIDTH of a JOB: the least power of two that is SIZE at least");
        GangMatrix x = Edges.with(32);
        int[] width = {0, 1, 2, 4, 4, 8, 8, 8, 8, 16, 16, 16, 16, 16, 16, 16, 16};
        for (int size = 1; size <= 32; size++) {
            Edges.job(x, size - 1, size, 9, 0);
            Edges.due("WIDTH of size " + size, x.of(size - 1, Edges.WIDTH), size <= 16 ? width[size] : 32);
        }
    }

    private static void blocksAreMultiples() {
        Edges.sentence("A BLOCK: a power of two of COLUMNS side by side, the first a multiple of it");
        GangMatrix x = Edges.with(16);
        Edges.job(x, 0, 1, 9, 0);
        int[] column = {0, 1, 2, 4, 4, 8, 8, 8, 8};
        for (int size = 1; size <= 8; size++) {
            Edges.due("a block for size " + size, x.where(size, 1), column[size]);
        }
        Edges.due("no block of 16 in that slot", x.where(9, 0), 1);
    }

    private static void cellsAreTheFirst() {
        Edges.sentence("its CELLS are the first SIZE of these COLUMNS");
        for (int size = 5; size <= 8; size++) {
            GangMatrix x = Edges.with(8);
            x.set(Edges.STOP, 0);
            Edges.job(x, 0, size, 9, 0);
            Edges.job(x, 1, 1, 9, 0);
            Edges.due("in a BLOCK", x.slot(0, 4), 8);
            Edges.due("CELLS", x.slot(0, 5), size);
            for (int c = 1; c < 8; c++) {
                Edges.yes("move", x.move(1, c));
                Edges.due("lent column " + c + " by size " + size, x.lends(0, Edges.NONE), c < size ? 0 : 1);
            }
        }
    }

    private static void noSharedColumn() {
        Edges.sentence("no two of one SLOT share a COLUMN");
        GangMatrix x = Edges.with(4);
        Edges.job(x, 0, 3, 9, 0);
        Edges.job(x, 1, 1, 9, 0);
        Edges.at(x, 1, 1, 0);
        x.set(Edges.STOP, 0);
        Edges.yes("into the BLOCK's last column", x.move(1, 3));
        Edges.at(x, 1, 1, 3);
        Edges.due("whose BLOCK it is", x.cell(0, 3), 0);
        Edges.due("whose BLOCK it is", x.cell(1, 3), 1);
    }

    private static void noneThatIsDown() {
        Edges.sentence("none has one (COLUMN of its BLOCK) that is DOWN");
        GangMatrix x = Edges.with(4);
        Edges.yes("down", x.down(3));
        Edges.job(x, 0, 3, 9, 0);
        Edges.state(x, 0, Edges.WAITING);
        Edges.due("no block for size 3", x.where(3, 0), Edges.NONE);
        Edges.due("nor for 2 but the first", x.where(2, 1), 0);
        Edges.yes("up", x.up(3));
        Edges.at(x, 0, 0, 0);
        Edges.yes("down", x.down(3));
        Edges.state(x, 0, Edges.WAITING);
    }

    private static void emptySlotGoes() {
        Edges.sentence("SLOTS are numbered as they stand; one without a JOB goes at once");
        GangMatrix x = Edges.with(4);
        for (int j = 0; j < 4; j++) Edges.job(x, j, 4, j == 3 ? 1 : 9, 0);
        Edges.due("killed", x.kill(0), 1);
        Edges.at(x, 1, 0, 0);
        Edges.at(x, 2, 1, 0);
        Edges.at(x, 3, 2, 0);
        Edges.due("the last is done", x.quantum(3), 1);
        Edges.due("SLOTS", x.look(13), 2);
        Edges.due("no such SLOT", x.slot(2, 0), Edges.NONE);
        Edges.at(x, 2, 1, 0);
        Edges.due("killed", x.kill(1) + x.kill(2), 2);
        Edges.due("no SLOT", x.look(13), 0);
        Edges.due("no such SLOT", x.cell(0, 0), -2);
        Edges.job(x, 4, 4, 9, 0);
        Edges.job(x, 5, 2, 9, 0);
        Edges.job(x, 6, 4, 9, 0);
        Edges.yes("its slot goes, a new one is behind all", x.move(5, 2));
        Edges.at(x, 6, 1, 0);
        Edges.at(x, 5, 2, 2);
        x = Edges.with(4);
        Edges.job(x, 0, 2, 9, 0);
        Edges.job(x, 1, 4, 9, 0);
        Edges.yes("the first job is behind", x.move(0, 2));
        Edges.at(x, 0, 1, 2);
        Edges.due("killed", x.kill(1), 1);
        Edges.at(x, 0, 0, 2);
    }

    private static void emptySlotsGoTogether() {
        Edges.sentence("(those behind it stand one ahead then): for each that goes");
        GangMatrix x = Edges.with(8);
        Edges.job(x, 0, 8, 9, 0);
        Edges.job(x, 1, 4, 9, 1);
        Edges.job(x, 2, 8, 9, 0);
        Edges.job(x, 3, 8, 9, 0);
        x.quantum(1);
        Edges.due("TURNS of slot 0", x.slot(0, 3), 1);
        Edges.yes("all but one are put back", x.down(7));
        Edges.due("SLOTS", x.look(13), 1);
        Edges.at(x, 1, 0, 0);
        Edges.due("its TURNS", x.slot(0, 3), 0);
        Edges.due("its BLOCK", x.cell(0, 3), 1);
        Edges.due("its COLUMNS", x.slot(0, 4), 4);
    }

    private static void passOfANewSlot() {
        Edges.sentence("PASS (a new one: the least PASS of those there are), TURNS (0 at first)");
        for (int least = 0; least <= 1; least++) {
            GangMatrix x = Edges.with(4);
            x.share(least, 4);
            Edges.job(x, 0, 4, 99, 0);
            Edges.job(x, 1, 4, 99, 1);
            x.quantum(2);
            // 250000 and 1000000
            Edges.job(x, 2, 4, 99, 2);
            Edges.due("the least", x.slot(2, 2), 0);
            Edges.due("less than the other by", x.slot(1 - least, 2), 750000);
            Edges.due("as the least", x.slot(least, 2), 0);
            Edges.due("TURNS", x.slot(2, 3), 0);
            Edges.due("killed", x.kill(0) + x.kill(1) + x.kill(2), 3);
            Edges.job(x, 3, 4, 99, 0);
            Edges.due("the only one", x.slot(0, 2), 0);
            Edges.due("TURNS", x.slot(0, 3), 0);
        }
    }

    private static void weights() {
        Edges.sentence("WEIGHT: the SHARES of the USERS of its JOBS, JOB by JOB, together");
        GangMatrix x = Edges.with(32);
        Edges.yes("share", x.share(5, 9));
        for (int j = 0; j < 32; j++) Edges.job(x, j, 1, 99, 5);
        Edges.job(x, 32, 32, 99, 0);
        Edges.due("32 of one user", x.slot(0, 1), 288);
        Edges.due("one", x.slot(1, 1), 1);
        x.quantum(1);
        Edges.due("1000000 by 288, cut", x.slot(0, 2), 3472);
        Edges.yes("share", x.share(5, 1));
        Edges.due("as told now", x.slot(0, 1), 32);
        x.quantum(2);
        Edges.due("PASS of the other less that", x.slot(1, 2), 1000000 - 3472 - 31250);
    }
}
