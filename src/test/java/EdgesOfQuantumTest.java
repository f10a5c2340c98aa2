/** Edges that ==== 3 of the document names: a QUANTUM from (a) to (h), TO UNIFY, TO REPACK. */
public final class EdgesOfQuantumTest {
    public static void main(String[] args) {
        runAll();
        Edges.end("edges of ==== 3");
    }

    static void runAll() {
        arrivalsWhoseTimeHasCome();
        arrivalsAsTold();
        arrivalsGoOn();
        goesOnWithoutArrivals();
        firstOfSeveral();
        passByWeight();
        stoppedOnesDoNotRun();
        lentToOthers();
        ratioAheadOfC();
        thenByNumber();
        cellsOfNobodyWhoRunsYet();
        blocksDoNotMatter();
        toRun();
        keptByTogether();
        stoppedIsOneLess();
        columnsBySorts();
        usedAheadOfStill();
        usedAheadOfInside();
        stillOfTheSlotAlone();
        doneByNumber();
        notPlacedAnyMore();
        heldByNumber();
        heldOnesOneByOne();
        unifiesAheadOfGoingOn();
        goesOnWithoutAuto();
        withoutASlot();
        withoutAColumn();
        unifyNone();
        unifyBlocks();
        unifyTheFirstTwo();
        unifyPassAndTurns();
        unifyAgain();
        repackNone();
        repackPlacedOnes();
        repackByWidth();
        repackBySlot();
        repackByNumber();
        repackAboveMost();
        repackPassAndTurns();
    }

    private static void arrivalsWhoseTimeHasCome() {
        Edges.sentence("(a) ARRIVALS whose TIME has come");
        GangMatrix x = Edges.with(4);
        Edges.due("now", x.later(0, 1, 9, 0), 1);
        Edges.due("next", x.later(1, 1, 9, 0), 2);
        Edges.due("last", x.later(99999, 1, 9, 0), 3);
        Edges.due("none has come by being told", x.look(11), 0);
        x.quantum(1);
        Edges.due("JOBS", x.look(11), 1);
        Edges.due("yet to come", x.look(12), 2);
        x.quantum(1);
        Edges.due("JOBS", x.look(11), 2);
        Edges.due("it came at", x.of(1, Edges.CAME), 1);
        Edges.due("now", x.later(2, 1, 9, 0), 2);
        x.quantum(1);
        Edges.due("it came at", x.of(2, Edges.CAME), 2);
        x.quantum(100);
        Edges.due("yet to come", x.look(12), 1);
    }

    private static void arrivalsAsTold() {
        Edges.sentence("(a) ARRIVALS .., as they were told, are JOBS");
        GangMatrix x = Edges.with(4);
        int[] time = {2, 1, 2, 3, 1, 2};
        for (int i = 0; i < 6; i++) Edges.due("yet to come", x.later(time[i], 1, 10 + i, i), i + 1);
        x.quantum(4);
        int[] told = {1, 4, 0, 2, 5, 3};
        for (int j = 0; j < 6; j++) {
            Edges.due("WORK of " + j, x.of(j, 1), 10 + told[j]);
            Edges.due("USER of " + j, x.of(j, 2), told[j]);
            Edges.due("AFTER of " + j, x.of(j, 3), Edges.NONE);
        }
    }

    private static void arrivalsGoOn() {
        Edges.sentence("(a) .. are JOBS (WAITING); GO ON");
        GangMatrix x = Edges.with(4);
        x.set(Edges.MOST, 1);
        x.later(0, 3, 9, 0);
        x.later(0, 1, 9, 0);
        x.quantum(1);
        Edges.at(x, 0, 0, 0);
        Edges.due("it ran at once", x.of(0, Edges.RAN), 1);
        Edges.due("first PLACED", x.of(0, Edges.FIRST), 0);
        Edges.queue(x, 1);
        Edges.line(x, 2, 0, 0, 0, Edges.NONE, Edges.NONE);
        Edges.line(x, 1, 0, 0, 1, Edges.NONE, Edges.NONE);
        Edges.line(x, 0, 0, 1, 0, 0, 0);
    }

    private static void goesOnWithoutArrivals() {
        Edges.sentence("(a) .. GO ON in any case");
        GangMatrix x = Edges.restless();
        x.quantum(1);
        Edges.at(x, 3, 0, 5);
        Edges.due("PLACED ahead of (c), it ran", x.of(3, Edges.RAN), 1);
        Edges.due("first PLACED", x.of(3, Edges.FIRST), 0);
    }

    private static void firstOfSeveral() {
        Edges.sentence("(b) The SLOT with the least PASS (the first of several) has its turn");
        GangMatrix x = Edges.with(4);
        x.share(2, 2);
        for (int j = 0; j < 3; j++) Edges.job(x, j, 4, 99, j);
        int[] turn = {0, 1, 2, 2, 0, 1, 2, 2};
        for (int i = 0; i < turn.length; i++) {
            x.quantum(1);
            Edges.due("turn " + i, x.went(0, 0), turn[i]);
        }
        Edges.due("killed", x.kill(0), 1);
        x.quantum(1);
        Edges.due("the first of those there are", x.went(0, 0), 0);
        Edges.due("it is job 1's", x.of(1, Edges.RAN), 3);
    }

    private static void passByWeight() {
        Edges.sentence("(b) PASS more by 1000000 by its WEIGHT, cut; TURNS one more");
        int[] by = {0, 1000000, 500000, 333333, 250000, 200000, 166666, 142857, 125000, 111111};
        for (int share = 1; share <= 9; share++) {
            GangMatrix x = Edges.with(4);
            x.share(0, share);
            Edges.job(x, 0, 4, 99, 0);
            Edges.job(x, 1, 4, 99, 1);
            x.quantum(1);
            Edges.due("PASS by WEIGHT " + share, x.slot(0, 2), by[share]);
            Edges.due("TURNS", x.slot(0, 3), 1);
            Edges.due("TURNS of the other", x.slot(1, 3), 0);
        }
    }

    private static void stoppedOnesDoNotRun() {
        Edges.sentence("(c) Its JOBS that are not STOPPED run (who is STOPPED ahead of it does not run)");
        GangMatrix x = Edges.with(4);
        x.set(Edges.STOP, 8);
        Edges.job(x, 0, 1, 9, 0);
        Edges.yes("move", x.move(0, 1));
        Edges.job(x, 1, 1, 9, 0);
        Edges.due("STOPPED", x.of(0, Edges.STOPPED), 2);
        x.quantum(1);
        Edges.went(x, 0, 0, 1, 0, 1);
        x.quantum(1);
        Edges.went(x, 0, 0, 1, 0, 1);
        Edges.due("STOPPED no more", x.of(0, Edges.STOPPED), 0);
        Edges.due("it did not run", x.of(0, Edges.LEFT), 9);
        x.quantum(1);
        Edges.went(x, 0, 0, 2, 0, 2);
        Edges.due("it ran", x.of(0, Edges.LEFT), 8);
        Edges.due("killed", x.kill(1), 1);
        Edges.yes("move", x.move(0, 0));
        x.quantum(1);
        Edges.went(x, 0, 0, 0, 0, 0);
        Edges.due("the SLOT has its turn all the same", x.slot(0, 3), 1);
    }

    /** Slot 0: job 0 in cells 0 to 4 of a block of 8; the others, of size 1, in other slots, at the columns given. */
    private static GangMatrix lending(int[] user, int[] column) {
        GangMatrix x = Edges.with(8);
        x.set(Edges.MOST, 8);
        x.set(Edges.STOP, 0);
        Edges.job(x, 0, 5, 99, 0);
        for (int i = 0; i < user.length; i++) {
            Edges.job(x, i + 1, 1, 99, user[i]);
            if (column[i] != x.of(i + 1, Edges.COLUMN)) Edges.yes("move", x.move(i + 1, column[i]));
        }
        return x;
    }

    private static void extras(GangMatrix x, int... want) {
        for (int j = 0; j < want.length; j++) Edges.due("EXTRA of " + j, x.of(j, Edges.EXTRA), want[j]);
    }

    private static void lentToOthers() {
        Edges.sentence("(d) ALTERNATES (if 1): JOBS PLACED in other SLOTS, not STOPPED");
        int[] user = {0, 0};
        int[] column = {5, 6};
        GangMatrix x = lending(user, column);
        x.set(Edges.ALTERNATES, 0);
        x.quantum(1);
        extras(x, 0, 0, 0);
        x.set(Edges.ALTERNATES, 1);
        x.quantum(2);
        // slot 1, of WEIGHT 2, has two turns; job 0 is in another
        extras(x, 2, 0, 0);
        x.quantum(1);
        extras(x, 2, 1, 1);
        Edges.went(x, 0, 0, 1, 2, 7);
        x.set(Edges.STOP, 9);
        Edges.yes("move", x.move(1, 7));
        x.quantum(2);
        extras(x, 4, 1, 1);
        Edges.due("STOPPED", x.of(1, Edges.STOPPED), 1);
        x.quantum(1);
        Edges.went(x, 0, 0, 1, 1, 6);
        extras(x, 4, 1, 2);
    }

    private static void ratioAheadOfC() {
        Edges.sentence("(d) by RATIO as it was ahead of (c), the least first");
        GangMatrix x = lending(new int[] {0, 1}, new int[] {7, 7});
        x.quantum(1);
        // both users had USED nothing, so by number, though user 0 has used 5 by (c)
        extras(x, 0, 1, 0);
        x = lending(new int[] {1, 1, 2}, new int[] {5, 6, 6});
        x.quantum(1);
        // nor does it change by (d): job 2 comes ahead of job 3
        extras(x, 0, 1, 1, 0);
        x.quantum(3);
        // slots 1, 2, 1: users have used 15, 7, 1
        extras(x, 3, 2, 1, 0);
        x.quantum(1);
        Edges.due("slot 0", x.went(0, 0), 0);
        extras(x, 3, 3, 1, 1);
    }

    private static void thenByNumber() {
        Edges.sentence("(d) .., then by number");
        GangMatrix x = lending(new int[] {3, 2, 1}, new int[] {7, 7, 7});
        Edges.due("how many", x.lends(0, Edges.NONE), 1);
        Edges.due("the least number", x.lends(0, 0), 1);
        x.quantum(1);
        extras(x, 0, 1, 0, 0);
        Edges.due("RATIO is ahead of it", x.lends(0, 0), 2);
    }

    private static void cellsOfNobodyWhoRunsYet() {
        Edges.sentence("(d) one all of whose CELLS are CELLS of nobody who runs yet, runs");
        int[] lent = {0, 0, 1, 1};
        for (int column = 0; column < 8; column += 2) {
            GangMatrix x = Edges.with(8);
            x.set(Edges.STOP, 0);
            Edges.job(x, 0, 3, 99, 0);
            Edges.job(x, 1, 4, 99, 0);
            Edges.job(x, 2, 2, 99, 0);
            if (column > 0) Edges.yes("move", x.move(2, column));
            Edges.due("killed", x.kill(1), 1);
            // columns 2 and 3: one of the two is a CELL of job 0
            Edges.due("in columns " + column + " and the next", x.lends(0, Edges.NONE), lent[column / 2]);
            x.quantum(1);
            Edges.due("it ran", x.of(2, Edges.EXTRA), lent[column / 2]);
        }
        GangMatrix x = lending(new int[] {0, 0, 0}, new int[] {5, 5, 6});
        Edges.due("the second is in the way of nobody but the first", x.lends(0, Edges.NONE), 2);
        Edges.due("the first", x.lends(0, 0), 1);
        Edges.due("the third", x.lends(0, 1), 3);
    }

    private static void blocksDoNotMatter() {
        Edges.sentence("(d) .. CELLS (not BLOCKS) of nobody who runs yet");
        GangMatrix x = Edges.with(8);
        x.set(Edges.STOP, 0);
        Edges.job(x, 0, 1, 99, 0);
        Edges.yes("move", x.move(0, 7));
        Edges.job(x, 1, 3, 99, 0);
        Edges.yes("its BLOCK has column 7", x.move(1, 4));
        Edges.at(x, 1, 1, 4);
        Edges.due("lent by slot 0", x.lends(0, 0), 1);
        Edges.due("lent by slot 1", x.lends(1, 0), 0);
        x.quantum(1);
        Edges.went(x, 0, 0, 1, 1, 4);
    }

    private static void toRun() {
        Edges.sentence("To run: LEFT one less, RAN (in (c)) or EXTRA (in (d)) one more, USED of its USER SIZE more");
        GangMatrix x = lending(new int[] {4}, new int[] {6});
        x.quantum(1);
        int[] own = {98, 1, 0};
        int[] lent = {98, 0, 1};
        int[] what = {Edges.LEFT, Edges.RAN, Edges.EXTRA};
        for (int k = 0; k < 3; k++) {
            Edges.due("of who ran by (c)", x.of(0, what[k]), own[k]);
            Edges.due("of who ran by (d)", x.of(1, what[k]), lent[k]);
        }
        Edges.due("USED", x.user(0, 1), 5);
        Edges.due("USED", x.user(4, 1), 1);
        Edges.due("EXTRA of all", x.count(10), 1);
    }

    private static void keptByTogether() {
        Edges.sentence("if SAVE is above 0 and RAN and EXTRA together a multiple of it, KEPT is LEFT");
        GangMatrix x = lending(new int[] {1}, new int[] {6});
        x.set(Edges.SAVE, 2);
        x.quantum(1);
        Edges.due("KEPT", x.of(1, Edges.KEPT), 99);
        x.quantum(1);
        Edges.due("RAN and EXTRA", x.of(1, Edges.RAN) * 10 + x.of(1, Edges.EXTRA), 11);
        Edges.due("KEPT", x.of(1, Edges.KEPT), 97);
        Edges.due("KEPT", x.of(0, Edges.KEPT), 97);
        x.quantum(1);
        Edges.due("KEPT", x.of(1, Edges.KEPT), 97);
        x.set(Edges.SAVE, 0);
        x.quantum(1);
        Edges.due("KEPT without SAVE", x.of(1, Edges.KEPT), 97);
        x.set(Edges.SAVE, 5);
        x.quantum(1);
        Edges.due("KEPT by 5", x.of(1, Edges.KEPT), 94);
    }

    private static void stoppedIsOneLess() {
        Edges.sentence("(e) STOPPED (above 0) of each JOB PLACED is one less");
        GangMatrix x = Edges.with(4);
        x.set(Edges.STOP, 4);
        Edges.job(x, 0, 4, 99, 0);
        Edges.job(x, 1, 2, 99, 1);
        Edges.yes("move", x.move(1, 2));
        int[] stopped = {1, 0, 0, 0, 0};
        int[] ran = {0, 0, 0, 1, 1};
        for (int i = 0; i < 5; i++) {
            x.quantum(1);
            Edges.due("turn", x.went(0, 0), i % 2);
            Edges.due("STOPPED", x.of(1, Edges.STOPPED), stopped[i]);
            Edges.due("RAN", x.of(1, Edges.RAN), ran[i]);
        }
        Edges.due("not below 0", x.of(0, Edges.STOPPED), 0);
    }

    private static void columnsBySorts() {
        Edges.sentence("(f) Each COLUMN counts for one of these, the first that is so: DOWN; USED; STILL; INSIDE; OPEN");
        GangMatrix x = Edges.with(8);
        x.set(Edges.STOP, 4);
        Edges.job(x, 0, 3, 99, 0);
        Edges.yes("move", x.move(0, 4));
        Edges.yes("move", x.move(0, 0));
        Edges.job(x, 1, 1, 99, 0);
        Edges.yes("down", x.down(7));
        x.quantum(1);
        Edges.counted(x, 1, 3, 1, 2, 1);
        x.quantum(2);
        Edges.counted(x, 3, 9, 3, 6, 3);
        x.quantum(1);
        Edges.counted(x, 3 + 4, 9, 4, 8, 4);
        Edges.yes("up", x.up(7));
        x.quantum(1);
        Edges.counted(x, 7 + 4, 9, 5, 11, 4);
    }

    private static void usedAheadOfStill() {
        Edges.sentence("(f) USED (a CELL of one who runs); STILL (a CELL of a JOB of the SLOT)");
        for (int lend = 0; lend <= 1; lend++) {
            GangMatrix x = Edges.with(4);
            x.set(Edges.STOP, 4);
            Edges.job(x, 0, 2, 99, 0);
            Edges.job(x, 1, 4, 99, 0);
            Edges.yes("behind the other now", x.move(0, 2));
            x.set(Edges.ALTERNATES, lend);
            x.quantum(2);
            // all USED by job 1; then slot 1 has its turn, where job 0 is STOPPED
            Edges.went(x, 0, 1, 0, lend, lend * 4);
            Edges.counted(x, 4 + lend * 4, lend == 1 ? 0 : 2, 0, lend == 1 ? 0 : 2, 0);
        }
    }

    private static void usedAheadOfInside() {
        Edges.sentence("(f) USED ..; INSIDE (in a BLOCK of the SLOT); OPEN");
        for (int lend = 0; lend <= 1; lend++) {
            GangMatrix x = lending(new int[] {0, 0}, new int[] {5, 7});
            x.set(Edges.ALTERNATES, lend);
            x.quantum(1);
            Edges.counted(x, 5 + 2 * lend, 0, 3 - 2 * lend, 0, 0);
            x.quantum(1);
            // slot 1 with jobs 1 and 2; job 0 beside them
            Edges.counted(x, (5 + 2) * (1 + lend), 0, 3 - 2 * lend, lend == 1 ? 1 : 6, 0);
        }
    }

    private static void stillOfTheSlotAlone() {
        Edges.sentence("(f) STILL, INSIDE: of the SLOT (not of another)");
        GangMatrix x = Edges.with(8);
        x.set(Edges.STOP, 9);
        Edges.job(x, 0, 1, 99, 0);
        Edges.job(x, 1, 8, 99, 0);
        Edges.job(x, 2, 3, 99, 0);
        Edges.due("killed", x.kill(1), 1);
        Edges.yes("into a SLOT of its own", x.move(2, 0));
        Edges.at(x, 2, 1, 0);
        x.quantum(1);
        Edges.due("slot 0", x.went(0, 0), 0);
        Edges.counted(x, 1, 0, 0, 7, 0);
        x.quantum(1);
        // slot 1: job 2 is STOPPED in 0 to 2, job 0 is lent column 0
        Edges.counted(x, 2, 2, 1, 7 + 4, 0);
    }

    private static void doneByNumber() {
        Edges.sentence("(g) TIME is one more. By number: a JOB with LEFT 0 is DONE (END is TIME)");
        GangMatrix x = Edges.with(4);
        x.set(Edges.STOP, 0);
        Edges.job(x, 0, 1, 1, 0);
        Edges.job(x, 1, 3, 1, 0);
        Edges.yes("behind the other now", x.move(0, 3));
        Edges.due("both are done", x.quantum(1), 2);
        Edges.line(x, 1, 1, 3, 0, 1, 3);
        Edges.line(x, 0, 1, 3, 1, 0, 0);
        Edges.due("END", x.of(0, Edges.END), 1);
        Edges.due("END", x.of(1, Edges.END), 1);
        Edges.due("TIME", x.look(10), 1);
    }

    private static void notPlacedAnyMore() {
        Edges.sentence("(g) .. is DONE .., not PLACED any more");
        GangMatrix x = Edges.with(4);
        Edges.job(x, 0, 3, 1, 0);
        Edges.due("done", x.quantum(1), 1);
        Edges.state(x, 0, Edges.DONE);
        Edges.due("SLOT", x.of(0, Edges.SLOT), Edges.NONE);
        Edges.due("COLUMN", x.of(0, Edges.COLUMN), Edges.NONE);
        Edges.due("LEFT", x.of(0, Edges.LEFT), 0);
        Edges.due("LOAD", x.load(0), 0);
        Edges.due("SLOTS", x.look(13), 0);
        Edges.no("it can't be MOVED", x.move(0, 0));
        Edges.due("no more", x.quantum(5), 0);
        Edges.due("RAN", x.of(0, Edges.RAN), 1);
    }

    private static void heldByNumber() {
        Edges.sentence("(g) By number: those HELD whose AFTER is DONE are WAITING");
        GangMatrix x = Edges.with(4);
        x.set(Edges.MOST, 1);
        Edges.job(x, 0, 2, 1, 0);
        Edges.job(x, 1, 2, 1, 0);
        Edges.held(x, 2, 4, 9, 1);
        Edges.held(x, 3, 4, 9, 0);
        Edges.held(x, 4, 4, 9, 1);
        Edges.job(x, 5, 4, 9, 0);
        Edges.queue(x, 5);
        Edges.due("done", x.quantum(1), 2);
        Edges.at(x, 5, 0, 0);
        Edges.queue(x, 2, 3, 4);
    }

    private static void heldOnesOneByOne() {
        Edges.sentence("(g) .. those HELD whose AFTER is DONE (not those behind them)");
        GangMatrix x = Edges.with(4);
        Edges.job(x, 0, 1, 1, 0);
        for (int j = 1; j < 4; j++) Edges.held(x, j, 1, 1, j - 1);
        for (int j = 1; j < 4; j++) {
            Edges.due("done", x.quantum(1), 1);
            Edges.state(x, j, Edges.PLACED);
            Edges.due("first PLACED", x.of(j, Edges.FIRST), j);
            Edges.due("it came at", x.of(j, Edges.CAME), 0);
            if (j < 3) Edges.state(x, j + 1, Edges.HELD);
        }
        Edges.due("done", x.quantum(1), 1);
        Edges.due("END", x.of(3, Edges.END), 4);
    }

    private static void unifiesAheadOfGoingOn() {
        Edges.sentence("(h) If AUTO is 1: UNIFY; GO ON");
        GangMatrix x = Edges.with(4);
        x.set(Edges.MOST, 2);
        for (int j = 0; j < 4; j++) Edges.job(x, j, 2, 9, 0);
        Edges.job(x, 4, 4, 9, 0);
        Edges.due("killed", x.kill(1) + x.kill(2), 2);
        x.set(Edges.AUTO, 1);
        Edges.queue(x, 4);
        x.quantum(1);
        Edges.line(x, 1, 1, 7, Edges.NONE, 0, 1);
        Edges.line(x, 0, 1, 1, 4, 1, 0);
        Edges.at(x, 3, 0, 2);
        Edges.due("UNIFIED", x.count(7), 1);
        x = Edges.with(4);
        x.set(Edges.MOST, 2);
        for (int j = 0; j < 4; j++) Edges.job(x, j, 2, j == 1 ? 1 : 9, 0);
        Edges.held(x, 4, 2, 9, 1);
        Edges.due("killed", x.kill(2), 1);
        x.set(Edges.AUTO, 1);
        Edges.due("done", x.quantum(1), 1);
        // 4 finds 3 in the place that 1 had
        Edges.at(x, 3, 0, 2);
        Edges.at(x, 4, 1, 0);
    }

    private static void goesOnWithoutAuto() {
        Edges.sentence("(h) .. GO ON in any case");
        GangMatrix x = Edges.restless();
        x.quantum(1);
        Edges.queue(x, 1);
        Edges.at(x, 4, 0, 6);
        Edges.due("PLACED behind (c)", x.of(4, Edges.RAN), 0);
        Edges.due("first PLACED", x.of(4, Edges.FIRST), 1);
        for (int auto = 0; auto <= 1; auto++) {
            x = Edges.with(4);
            x.set(Edges.AUTO, auto);
            x.set(Edges.MOST, 1);
            Edges.job(x, 0, 4, 1, 0);
            Edges.job(x, 1, 4, 1, 0);
            Edges.due("done", x.quantum(1), 1);
            Edges.at(x, 1, 0, 0);
            Edges.due("first PLACED", x.of(1, Edges.FIRST), 1);
        }
    }

    private static void withoutASlot() {
        Edges.sentence("Without a SLOT (b) to (e) are nothing");
        GangMatrix x = Edges.with(4);
        Edges.due("none is done", x.quantum(3), 0);
        Edges.due("TIME", x.look(10), 3);
        Edges.counted(x, 0, 0, 0, 12, 0);
        for (int i = 0; i < 3; i++) Edges.went(x, i, Edges.NONE, 0, 0, 0);
        Edges.due("no fourth", x.went(3, 1), Edges.NONE);
        Edges.yes("down", x.down(1));
        Edges.job(x, 0, 4, 9, 0);
        x.quantum(1);
        Edges.counted(x, 0, 0, 0, 15, 1);
        Edges.queue(x, 0);
        Edges.due("it did not run", x.of(0, Edges.LEFT), 9);
        x = Edges.with(4);
        Edges.job(x, 0, 3, 1, 0);
        Edges.due("done", x.quantum(2), 1);
        Edges.went(x, 1, 0, 1, 0, 3);
        Edges.went(x, 0, Edges.NONE, 0, 0, 0);
        Edges.counted(x, 3, 0, 1, 4, 0);
    }

    private static void withoutAColumn() {
        Edges.sentence("(f) DOWN (all of them)");
        GangMatrix x = Edges.with(32);
        Edges.job(x, 0, 1, 9, 0);
        for (int c = 0; c < 32; c++) Edges.yes("down", x.down(c));
        Edges.due("DOWN", x.look(21), 32);
        x.quantum(2);
        Edges.counted(x, 0, 0, 0, 0, 64);
        Edges.due("RESTARTS", x.of(0, Edges.RESTARTS), 32);
        Edges.yes("up", x.up(31));
        x.quantum(1);
        Edges.at(x, 0, 0, 31);
        Edges.counted(x, 1, 0, 0, 0, 64 + 31);
    }

    private static void unifyNone() {
        Edges.sentence("TO UNIFY: .. as long as there are two such (there are none)");
        GangMatrix x = Edges.with(4);
        Edges.due("without a SLOT", x.unify(), 0);
        Edges.job(x, 0, 1, 9, 0);
        Edges.due("with one", x.unify(), 0);
        Edges.job(x, 1, 4, 9, 0);
        Edges.due("with two that share a COLUMN", x.unify(), 0);
        Edges.at(x, 1, 1, 0);
        Edges.due("UNIFIED", x.count(7), 0);
        Edges.due("no line of it", x.log(0, 1), 1);
    }

    private static void unifyBlocks() {
        Edges.sentence("TO UNIFY: .. such that no BLOCKS of the two share a COLUMN");
        GangMatrix x = Edges.with(4);
        x.set(Edges.STOP, 0);
        Edges.job(x, 0, 3, 9, 0);
        Edges.job(x, 1, 1, 9, 0);
        Edges.yes("beside the CELLS", x.move(1, 3));
        Edges.due("a BLOCK has it", x.unify(), 0);
        Edges.at(x, 1, 1, 3);
        Edges.job(x, 2, 2, 9, 0);
        Edges.at(x, 2, 1, 0);
        Edges.due("killed", x.kill(0), 1);
        Edges.due("one SLOT is left", x.unify(), 0);
        Edges.due("SLOTS", x.look(13), 1);
    }

    /** Four slots of one job of size 2 each: jobs 0 and 2 in columns 0, 1, jobs 5 and 7 in columns 2, 3. */
    private static GangMatrix halves(int... users) {
        GangMatrix x = Edges.with(4);
        x.set(Edges.ALTERNATES, 0);
        for (int j = 0; j < 8; j++) Edges.job(x, j, 2, 99, users[j / 2]);
        Edges.due("killed", x.kill(1) + x.kill(3) + x.kill(4) + x.kill(6), 4);
        return x;
    }

    private static void unifyTheFirstTwo() {
        Edges.sentence("TO UNIFY: the first SLOT (then the first one behind it)");
        GangMatrix x = halves(0, 0, 0, 0);
        Edges.due("SLOTS that go", x.unify(), 2);
        Edges.line(x, 1, 0, 7, Edges.NONE, 0, 2);
        Edges.line(x, 0, 0, 7, Edges.NONE, 1, 2);
        Edges.at(x, 0, 0, 0);
        Edges.at(x, 5, 0, 2);
        Edges.at(x, 2, 1, 0);
        Edges.at(x, 7, 1, 2);
        Edges.due("UNIFIED", x.count(7), 2);
        x = Edges.with(4);
        x.set(Edges.STOP, 0);
        for (int j = 0; j < 4; j++) Edges.job(x, j, 2, 9, 0);
        Edges.yes("the first job is behind", x.move(0, 2));
        Edges.due("killed", x.kill(1) + x.kill(3), 2);
        Edges.at(x, 0, 1, 2);
        Edges.due("SLOTS that go", x.unify(), 1);
        Edges.at(x, 0, 0, 2);
        Edges.at(x, 2, 0, 0);
    }

    private static void unifyPassAndTurns() {
        Edges.sentence("TO UNIFY: .. PASS the less of both, TURNS both together");
        for (int first = 0; first <= 1; first++) {
            GangMatrix x = first == 0 ? halves(0, 1, 2, 3) : halves(2, 1, 0, 3);
            x.share(2, 4);
            x.quantum(4);
            // user 2's slot has PASS 250000, the others 1000000
            Edges.due("SLOTS that go", x.unify(), 2);
            Edges.due("the less is of the first two", x.slot(0, 2), 0);
            Edges.due("PASS of the others", x.slot(1, 2), 750000);
            Edges.due("TURNS", x.slot(0, 3), 2);
            Edges.due("TURNS", x.slot(1, 3), 2);
        }
    }

    private static void unifyAgain() {
        Edges.sentence("TO UNIFY: .. again, as long as there are two such");
        GangMatrix x = Edges.with(8);
        x.set(Edges.MOST, 8);
        for (int j = 0; j < 56; j++) Edges.job(x, j, 1, 9, 0);
        for (int j = 0; j < 56; j++) if (j % 9 != 0) Edges.due("killed", x.kill(j), 1);
        // jobs 0, 9, 18 .. 54: each in a slot and a column of its own
        Edges.due("SLOTS", x.look(13), 7);
        Edges.due("all but one go", x.unify(), 6);
        for (int j = 0; j < 56; j += 9) Edges.at(x, j, 0, j / 9);
        for (int i = 0; i < 6; i++) Edges.line(x, i, 0, 7, Edges.NONE, 0, 1);
    }

    private static void repackNone() {
        Edges.sentence("TO REPACK: .. (SLOTS anew, from none on)");
        GangMatrix x = Edges.with(4);
        Edges.due("without a JOB", x.repack(), 0);
        Edges.job(x, 0, 1, 9, 0);
        Edges.due("with one", x.repack(), 1);
        Edges.at(x, 0, 0, 0);
        Edges.due("it has no line", x.look(22), 2);
        Edges.due("it is no MOVE", x.count(6), 0);
    }

    private static void repackPlacedOnes() {
        Edges.sentence("TO REPACK: each JOB PLACED (no other) keeps its BLOCK's COLUMNS");
        GangMatrix x = Edges.with(8);
        x.set(Edges.MOST, 1);
        Edges.job(x, 0, 1, 1, 0);
        Edges.due("done", x.quantum(1), 1);
        Edges.job(x, 1, 2, 9, 0);
        Edges.yes("move", x.move(1, 4));
        Edges.job(x, 2, 8, 9, 0);
        Edges.held(x, 3, 1, 9, 2);
        Edges.job(x, 4, 1, 9, 0);
        Edges.due("killed", x.kill(4), 1);
        Edges.due("SLOTS", x.repack(), 1);
        Edges.at(x, 1, 0, 4);
        for (int j : new int[] {0, 2, 3, 4}) {
            Edges.due("SLOT of " + j, x.of(j, Edges.SLOT), Edges.NONE);
            Edges.due("COLUMN of " + j, x.of(j, Edges.COLUMN), Edges.NONE);
        }
        Edges.due("JOBS of the SLOT", x.slot(0, 0), 1);
        Edges.due("STOPPED as it was", x.of(1, Edges.STOPPED), 1);
        Edges.due("MOVES as they were", x.of(1, Edges.MOVES), 1);
    }

    private static void repackByWidth() {
        Edges.sentence("TO REPACK: .. by WIDTH, the greatest first");
        GangMatrix x = Edges.with(8);
        x.set(Edges.STOP, 0);
        Edges.job(x, 0, 1, 9, 0);
        Edges.job(x, 1, 4, 9, 0);
        Edges.yes("move", x.move(1, 0));
        Edges.job(x, 2, 8, 9, 0);
        Edges.job(x, 3, 2, 9, 0);
        Edges.at(x, 3, 0, 2);
        // slots: 0 and 3; 1; 2. By WIDTH: 2, then 1, then 3, then 0
        Edges.due("SLOTS", x.repack(), 3);
        Edges.at(x, 2, 0, 0);
        Edges.at(x, 1, 1, 0);
        Edges.at(x, 3, 2, 2);
        Edges.at(x, 0, 2, 0);
    }

    private static void repackBySlot() {
        Edges.sentence("TO REPACK: .. then by the SLOT that it had");
        GangMatrix x = Edges.with(4);
        x.set(Edges.STOP, 0);
        Edges.job(x, 0, 2, 9, 0);
        Edges.job(x, 1, 2, 9, 0);
        Edges.yes("move", x.move(1, 0));
        Edges.yes("move", x.move(0, 2));
        Edges.yes("move", x.move(0, 0));
        Edges.at(x, 1, 0, 0);
        Edges.at(x, 0, 1, 0);
        Edges.due("SLOTS", x.repack(), 2);
        Edges.at(x, 1, 0, 0);
        Edges.at(x, 0, 1, 0);
    }

    private static void repackByNumber() {
        Edges.sentence("TO REPACK: .. then by COLUMN, then by number");
        for (int mover = 0; mover <= 1; mover++) {
            GangMatrix x = Edges.with(4);
            x.set(Edges.STOP, 0);
            Edges.job(x, 0, 2, 9, 0);
            Edges.job(x, 1, 2, 9, 0);
            Edges.job(x, 2, 2, 9, 0);
            Edges.job(x, 3, 2, 9, 0);
            int there = mover == 0 ? 0 : 2;
            if (there == 0) Edges.yes("move", x.move(3, 0));
            else Edges.yes("move", x.move(2, 2));
            // three in the mover's columns, one beside it in its slot
            Edges.yes("migrate", x.migrate(mover));
            Edges.at(x, 0, 0, 2 - there);
            Edges.at(x, 1, 1, 2 - there);
        }
    }

    private static void repackAboveMost() {
        Edges.sentence("TO REPACK: .. each is in the first SLOT where its BLOCK is FREE (MOST or not)");
        GangMatrix x = Edges.with(4);
        x.set(Edges.MOST, 8);
        for (int j = 0; j < 8; j++) Edges.job(x, j, 4, 9, 0);
        x.set(Edges.MOST, 1);
        Edges.due("eight are needed", x.repack(), 8);
        for (int j = 0; j < 8; j++) Edges.at(x, j, j, 0);
    }

    private static void repackPassAndTurns() {
        Edges.sentence("TO REPACK: .. PASS of all is the least that was, TURNS 0");
        GangMatrix x = Edges.with(4);
        x.share(1, 3);
        for (int j = 0; j < 3; j++) Edges.job(x, j, 4, 99, j);
        x.quantum(2);
        Edges.due("PASS", x.slot(0, 2), 1000000);
        Edges.due("SLOTS", x.repack(), 3);
        for (int s = 0; s < 3; s++) {
            Edges.due("PASS", x.slot(s, 2), 0);
            Edges.due("TURNS", x.slot(s, 3), 0);
        }
        x.quantum(1);
        Edges.due("the first has its turn", x.went(0, 0), 0);
    }
}
