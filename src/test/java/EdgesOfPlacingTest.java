/** Edges that ==== 2 of the document names: what is free, TO PLACE by FIT, THE QUEUE, TO GO ON. */
public final class EdgesOfPlacingTest {
    public static void main(String[] args) {
        runAll();
        Edges.end("edges of ==== 2");
    }

    static void runAll() {
        freeBlocks();
        loads();
        newSlot();
        slotsAtMost();
        noBlockInANewSlot();
        fitNought();
        fitOne();
        roomOfANewSlot();
        fitTwoGreatest();
        fitTwoTogether();
        queueAsTheyCame();
        queueByRatio();
        ratioJustSo();
        ratioOfEquals();
        firstOnesAsLongAsTheyCan();
        noneWaits();
        patienceIsOut();
        patienceIsReached();
        nextOnesBehind();
        nextOnesAsTheQueueIs();
        passedOfTheFirst();
        goesOnBehindSet();
        goesOnBehindShare();
        goesOnBehindJob();
        goesOnBehindKill();
        goesOnBehindDown();
        goesOnBehindUp();
        goesOnBehindUnify();
        goesOnBehindRepack();
        goesOnBehindMove();
        goesOnBehindMigrate();
        goesOnBehindRelay();
        goesOnBehindUrge();
        refusedDoesNotGoOn();
        othersDoNotGoOn();
    }

    private static void freeBlocks() {
        Edges.sentence("A BLOCK is FREE in a SLOT, if it has no COLUMN of a BLOCK there and none that is DOWN");
        GangMatrix x = Edges.with(8);
        Edges.job(x, 0, 3, 9, 0);
        free(x, 4, 2, 1, 0);
        Edges.yes("down", x.down(6));
        free(x, 3, 1, 0, 0);
        Edges.job(x, 1, 2, 9, 0);
        free(x, 1, 0, 0, 0);
        Edges.yes("up", x.up(6));
        free(x, 2, 1, 0, 0);
        Edges.job(x, 2, 2, 9, 0);
        free(x, 0, 0, 0, 0);
        Edges.due("a full SLOT has no first", x.free(0, 1, 1), Edges.NONE);
        Edges.due("killed", x.kill(0), 1);
        free(x, 4, 2, 1, 0);
        Edges.due("the first", x.free(0, 4, 1), 0);
    }

    private static void free(GangMatrix x, int... want) {
        for (int k = 0; k < want.length; k++) Edges.due("free of " + (1 << k), x.free(0, 1 << k, 0), want[k]);
    }

    private static void loads() {
        Edges.sentence("LOAD of a COLUMN: how many JOBS have it in their BLOCKS");
        GangMatrix x = Edges.with(4);
        for (int c = 0; c < 4; c++) Edges.due("none", x.load(c), 0);
        x.set(Edges.MOST, 8);
        for (int j = 0; j < 9; j++) {
            Edges.job(x, j, 3, 9, 0);
            Edges.due("of a CELL", x.load(0), Math.min(8, j + 1));
            Edges.due("beside the CELLS", x.load(3), Math.min(8, j + 1));
        }
        Edges.due("killed", x.kill(0), 1);
        Edges.due("one less, one more", x.load(3), 8);
        Edges.due("killed", x.kill(1), 1);
        Edges.due("one less", x.load(3), 7);
        Edges.yes("down", x.down(0));
        for (int c = 0; c < 4; c++) Edges.due("none", x.load(c), 0);
    }

    private static void newSlot() {
        Edges.sentence("TO PLACE a JOB: .. (in none: in a new SLOT behind all)");
        for (int fit = 0; fit <= 2; fit++) {
            GangMatrix x = Edges.with(4);
            x.set(Edges.FIT, fit);
            x.set(Edges.STOP, 0);
            Edges.job(x, 0, 4, 9, 0);
            Edges.job(x, 1, 2, 9, 0);
            Edges.at(x, 1, 1, 0);
            Edges.yes("move", x.move(1, 2));
            Edges.job(x, 2, 2, 9, 0);
            Edges.at(x, 2, 1, 0);
            Edges.due("the SLOT is full: a new one", x.where(1, 0), 2);
            Edges.due("its first COLUMN", x.where(1, 1), 0);
            Edges.job(x, 3, 1, 9, 0);
            Edges.at(x, 3, 2, 0);
            Edges.due("it is behind all", x.look(13), 3);
        }
    }

    private static void slotsAtMost() {
        Edges.sentence("(a new SLOT) if there are fewer than MOST; else it can't be");
        GangMatrix x = Edges.with(4);
        for (int j = 0; j < 3; j++) Edges.job(x, j, 4, 9, 0);
        Edges.due("fewer", x.where(4, 0), 3);
        x.set(Edges.MOST, 3);
        Edges.due("as many", x.where(4, 0), Edges.NONE);
        Edges.due("as many", x.where(1, 1), Edges.NONE);
        x.set(Edges.MOST, 2);
        Edges.due("more", x.where(4, 0), Edges.NONE);
        Edges.job(x, 3, 1, 9, 0);
        Edges.state(x, 3, Edges.WAITING);
        Edges.due("killed: as many", x.kill(0), 1);
        Edges.state(x, 3, Edges.WAITING);
        Edges.due("killed: fewer", x.kill(1), 1);
        Edges.at(x, 3, 1, 0);
    }

    private static void noBlockInANewSlot() {
        Edges.sentence("TO PLACE a JOB: .. else it can't be (no BLOCK of its WIDTH is FREE in a new SLOT either)");
        for (int fit = 0; fit <= 2; fit++) {
            GangMatrix x = Edges.with(4);
            x.set(Edges.FIT, fit);
            Edges.yes("down", x.down(0));
            Edges.due("width 4", x.where(3, 0), Edges.NONE);
            Edges.due("width 2", x.where(2, 1), 2);
            Edges.yes("down", x.down(3));
            Edges.due("width 2", x.where(2, 0), Edges.NONE);
            Edges.due("width 1", x.where(1, 1), 1);
            Edges.yes("down", x.down(1));
            Edges.yes("down", x.down(2));
            Edges.due("all are DOWN", x.where(1, 0), Edges.NONE);
            Edges.job(x, 0, 1, 9, 0);
            Edges.state(x, 0, Edges.WAITING);
            Edges.due("no SLOT", x.look(13), 0);
        }
    }

    private static void fitNought() {
        Edges.sentence("0: the first SLOT, then the least COLUMN");
        GangMatrix x = Edges.with(8);
        Edges.job(x, 0, 4, 9, 0);
        Edges.job(x, 1, 4, 9, 0);
        Edges.job(x, 2, 4, 9, 0);
        Edges.due("killed", x.kill(0), 1);
        // slot 0: columns 0 to 3 free; slot 1: columns 4 to 7
        spot(x, 1, 0, 0);
        Edges.job(x, 3, 1, 9, 0);
        spot(x, 1, 0, 1);
        spot(x, 2, 0, 2);
        spot(x, 4, 1, 4);
        x = Edges.with(8);
        for (int j = 0; j < 4; j++) Edges.job(x, j, 4, 9, 0);
        Edges.due("killed", x.kill(1) + x.kill(2), 2);
        // slot 0: columns 4 to 7 free; slot 1: columns 0 to 3
        spot(x, 1, 0, 4);
        spot(x, 4, 0, 4);
    }

    private static void spot(GangMatrix x, int size, int slot, int column) {
        Edges.due("SLOT for size " + size, x.where(size, 0), slot);
        Edges.due("COLUMN for size " + size, x.where(size, 1), column);
    }

    private static void fitOne() {
        Edges.sentence("1: the least ROOM (the greatest WIDTH of all BLOCKS that are FREE there and have it in)");
        GangMatrix x = Edges.with(8);
        for (int j = 0; j < 3; j++) Edges.job(x, j, 4, 9, 0);
        Edges.job(x, 3, 2, 9, 0);
        Edges.due("killed", x.kill(1), 1);
        // slot 0: columns 4 to 7 free; slot 1: columns 6 and 7
        spot(x, 1, 0, 4);
        x.set(Edges.FIT, 1);
        spot(x, 1, 1, 6);
        spot(x, 2, 1, 6);
        spot(x, 4, 0, 4);
        x.set(Edges.FIT, 0);
        Edges.job(x, 4, 2, 9, 0);
        x.set(Edges.FIT, 1);
        // columns 6 and 7 in both: as 0
        spot(x, 1, 0, 6);
        Edges.job(x, 5, 1, 9, 0);
        // slot 0: column 7 alone
        spot(x, 1, 0, 7);
        spot(x, 2, 1, 6);
        x = Edges.with(8);
        x.set(Edges.FIT, 1);
        int[] size = {4, 1, 1, 2};
        for (int j = 0; j < 4; j++) Edges.job(x, j, size[j], 9, 0);
        Edges.due("killed", x.kill(0) + x.kill(2), 2);
        // columns 0 to 3 and column 5
        spot(x, 1, 0, 5);
        spot(x, 2, 0, 0);
    }

    private static void roomOfANewSlot() {
        Edges.sentence("1: the least ROOM, then as 0 (in a new SLOT)");
        GangMatrix x = Edges.with(16);
        x.set(Edges.FIT, 1);
        for (int size = 1; size <= 16; size++) spot(x, size, 0, 0);
        Edges.yes("down", x.down(15));
        spot(x, 1, 0, 14);
        spot(x, 2, 0, 12);
        spot(x, 3, 0, 8);
        spot(x, 5, 0, 0);
        Edges.due("no BLOCK", x.where(9, 0), Edges.NONE);
        Edges.yes("down", x.down(14));
        spot(x, 1, 0, 12);
    }

    private static void fitTwoGreatest() {
        Edges.sentence("2: the least of its greatest LOAD");
        GangMatrix x = Edges.with(16);
        x.set(Edges.STOP, 0);
        Edges.job(x, 0, 8, 9, 0);
        Edges.job(x, 1, 8, 9, 0);
        Edges.job(x, 2, 1, 9, 0);
        Edges.job(x, 3, 4, 9, 0);
        Edges.job(x, 4, 1, 9, 0);
        Edges.yes("move", x.move(4, 0));
        Edges.due("killed", x.kill(0), 1);
        // LOADS: 2 0 0 0, 1 1 1 1, 1 to the end; slot 0 has columns 0 to 7 free
        spot(x, 4, 0, 0);
        x.set(Edges.FIT, 2);
        spot(x, 4, 0, 4);
        spot(x, 1, 0, 1);
        spot(x, 2, 0, 2);
    }

    private static void fitTwoTogether() {
        Edges.sentence("then the least of its LOADS together, then as 0");
        GangMatrix x = Edges.with(8);
        x.set(Edges.STOP, 0);
        Edges.job(x, 0, 2, 9, 0);
        Edges.job(x, 1, 2, 9, 0);
        Edges.job(x, 2, 4, 9, 0);
        Edges.job(x, 3, 1, 9, 0);
        Edges.yes("move", x.move(3, 2));
        Edges.job(x, 4, 1, 9, 0);
        Edges.yes("move", x.move(4, 2));
        Edges.job(x, 5, 2, 9, 0);
        Edges.yes("move", x.move(5, 4));
        Edges.job(x, 6, 1, 9, 0);
        Edges.yes("move", x.move(6, 6));
        Edges.due("killed", x.kill(1) + x.kill(2), 2);
        int[] load = {1, 1, 2, 0, 1, 1, 1, 0};
        for (int c = 0; c < 8; c++) Edges.due("LOAD of " + c, x.load(c), load[c]);
        x.set(Edges.FIT, 2);
        spot(x, 2, 0, 6);
        Edges.job(x, 7, 2, 9, 0);
        // 1 and 2 together in columns 4, 5 of slot 0, in 0, 1 of slots 1 and 2: the first SLOT
        spot(x, 2, 0, 4);
        // none in column 3 of each SLOT
        spot(x, 1, 0, 3);
    }

    private static void queueAsTheyCame() {
        Edges.sentence("THE QUEUE: those WAITING, by ORDER: 0: as they came to wait");
        GangMatrix x = Edges.with(4);
        x.set(Edges.MOST, 1);
        Edges.queue(x);
        Edges.job(x, 0, 4, 2, 0);
        Edges.held(x, 1, 4, 9, 0);
        Edges.job(x, 2, 4, 9, 0);
        Edges.job(x, 3, 4, 9, 0);
        Edges.job(x, 4, 4, 9, 0);
        Edges.queue(x, 2, 3, 4);
        Edges.due("done", x.quantum(2), 1);
        // 1 came to wait when 0 was DONE; then 2 was PLACED
        Edges.queue(x, 3, 4, 1);
        Edges.yes("2 is put back", x.down(0));
        Edges.queue(x, 3, 4, 1, 2);
        Edges.due("killed", x.kill(4), 1);
        Edges.queue(x, 3, 1, 2);
        Edges.yes("up", x.up(0));
        Edges.queue(x, 1, 2);
    }

    private static void queueByRatio() {
        Edges.sentence("1: by RATIO (USED of the USER by its SHARE ..), the least first, then as 0");
        GangMatrix x = Edges.with(4);
        x.set(Edges.MOST, 1);
        x.set(Edges.ORDER, 1);
        Edges.job(x, 0, 1, 2, 0);
        Edges.job(x, 1, 1, 1, 1);
        Edges.job(x, 2, 4, 9, 2);
        Edges.due("done", x.quantum(2), 2);
        Edges.at(x, 2, 0, 0);
        Edges.job(x, 3, 4, 9, 0);
        Edges.job(x, 4, 4, 9, 1);
        Edges.job(x, 5, 4, 9, 0);
        Edges.job(x, 6, 4, 9, 3);
        Edges.job(x, 7, 4, 9, 1);
        // USED 2, 1 and 0 by users 0, 1 and 3
        Edges.queue(x, 6, 4, 7, 3, 5);
        Edges.yes("share", x.share(0, 9));
        Edges.queue(x, 6, 3, 5, 4, 7);
        x.set(Edges.ORDER, 0);
        Edges.queue(x, 3, 4, 5, 6, 7);
    }

    private static void ratioJustSo() {
        Edges.sentence("(of two as fractions, just so)");
        GangMatrix x = Edges.with(4);
        x.set(Edges.MOST, 1);
        x.set(Edges.ORDER, 1);
        x.share(0, 3);
        x.share(1, 4);
        Edges.job(x, 0, 1, 10, 0);
        Edges.job(x, 1, 1, 13, 1);
        Edges.due("done", x.quantum(13), 2);
        Edges.job(x, 2, 4, 9, 5);
        Edges.job(x, 3, 4, 9, 0);
        Edges.job(x, 4, 4, 9, 1);
        // 10 by 3 is more than 13 by 4, though both are 3 when cut
        Edges.queue(x, 4, 3);
        x.share(0, 4);
        Edges.queue(x, 3, 4);
        x.share(0, 1);
        x.share(1, 1);
        Edges.queue(x, 3, 4);
    }

    private static void ratioOfEquals() {
        Edges.sentence("by RATIO .., then as 0: equal ones of unlike USED and SHARE");
        GangMatrix x = Edges.with(4);
        x.set(Edges.MOST, 1);
        x.set(Edges.ORDER, 1);
        x.share(2, 9);
        x.share(3, 3);
        Edges.job(x, 0, 1, 3, 2);
        Edges.job(x, 1, 1, 1, 3);
        Edges.due("done", x.quantum(3), 2);
        x.share(4, 9);
        Edges.job(x, 2, 4, 9, 4);
        int[] users = {2, 3, 2, 3, 0, 5, 4};
        for (int i = 0; i < users.length; i++) Edges.job(x, 3 + i, 4, 9, users[i]);
        // nothing USED: 0 by any SHARE; 3 by 9 is 1 by 3
        Edges.queue(x, 7, 8, 9, 3, 4, 5, 6);
    }

    private static void firstOnesAsLongAsTheyCan() {
        Edges.sentence("TO GO ON: as long as the first of THE QUEUE can be PLACED, it is");
        GangMatrix x = Edges.with(4);
        x.set(Edges.MOST, 1);
        Edges.job(x, 0, 4, 9, 0);
        Edges.job(x, 1, 1, 9, 0);
        Edges.job(x, 2, 1, 9, 0);
        Edges.job(x, 3, 4, 9, 0);
        Edges.job(x, 4, 1, 9, 0);
        Edges.due("killed", x.kill(0), 1);
        Edges.at(x, 1, 0, 0);
        Edges.at(x, 2, 0, 1);
        Edges.queue(x, 3, 4);
        Edges.due("nobody passed by", x.of(3, Edges.PASSED), 0);
        Edges.due("killed", x.kill(3), 1);
        Edges.at(x, 4, 0, 2);
        Edges.queue(x);
    }

    private static void noneWaits() {
        Edges.sentence("If there is one then (there is none: nothing more)");
        GangMatrix x = Edges.with(4);
        x.set(Edges.BACKFILL, 9);
        x.set(Edges.PATIENCE, 99);
        Edges.yes("no JOB at all", x.share(0, 1));
        Edges.job(x, 0, 1, 9, 0);
        Edges.job(x, 1, 1, 9, 0);
        Edges.due("PLACED, not by BACKFILL", x.count(9), 0);
        Edges.line(x, 0, 0, 1, 1, 0, 1);
        Edges.due("PASSED", x.of(0, Edges.PASSED) + x.of(1, Edges.PASSED), 0);
    }

    private static void patienceIsOut() {
        Edges.sentence("and its PASSED is below PATIENCE");
        GangMatrix x = Edges.restless();
        Edges.yes("as PASSED is", x.set(Edges.PATIENCE, 1));
        Edges.queue(x, 1, 3, 4);
        Edges.yes("below it", x.set(Edges.PATIENCE, 0));
        Edges.queue(x, 1, 3, 4);
        Edges.yes("one above it", x.set(Edges.PATIENCE, 2));
        Edges.queue(x, 1, 4);
        Edges.due("PASSED", x.of(1, Edges.PASSED), 2);
        Edges.yes("far below it", x.set(Edges.PATIENCE, 0));
        Edges.yes("ever so many may", x.set(Edges.BACKFILL, 9));
        Edges.queue(x, 1, 4);
        Edges.due("PASSED", x.of(1, Edges.PASSED), 2);
    }

    private static void patienceIsReached() {
        Edges.sentence("PASSED of the first is one more, and if that is PATIENCE it ends");
        for (int patience = 1; patience <= 4; patience++) {
            GangMatrix x = Edges.with(8);
            x.set(Edges.MOST, 1);
            x.set(Edges.PATIENCE, patience);
            Edges.job(x, 0, 4, 9, 0);
            Edges.job(x, 1, 8, 9, 0);
            for (int j = 2; j < 5; j++) Edges.job(x, j, 1, 9, 0);
            Edges.yes("nine may pass by", x.set(Edges.BACKFILL, 9));
            int passed = Math.min(3, patience);
            Edges.due("PASSED", x.of(1, Edges.PASSED), passed);
            Edges.due("WAITING", x.look(14), 4 - passed);
            Edges.due("PLACED by BACKFILL", x.count(9), passed);
        }
    }

    private static void nextOnesBehind() {
        Edges.sentence("the next ones behind it, BACKFILL of them, one by one");
        for (int backfill = 0; backfill <= 5; backfill++) {
            GangMatrix x = Edges.with(8);
            x.set(Edges.MOST, 1);
            Edges.job(x, 0, 4, 9, 0);
            int[] size = {8, 8, 1, 8, 1};
            for (int j = 0; j < 5; j++) Edges.job(x, j + 1, size[j], 9, 0);
            if (backfill > 0) Edges.yes("BACKFILL", x.set(Edges.BACKFILL, backfill));
            // behind the first (1): 2 can't be, 3 can, 4 can't, 5 can
            Edges.state(x, 3, backfill >= 2 ? Edges.PLACED : Edges.WAITING);
            Edges.state(x, 5, backfill >= 4 ? Edges.PLACED : Edges.WAITING);
            Edges.due("PASSED", x.of(1, Edges.PASSED), backfill / 2);
            Edges.due("of the first alone", x.of(2, Edges.PASSED) + x.of(4, Edges.PASSED), 0);
        }
    }

    private static void nextOnesAsTheQueueIs() {
        Edges.sentence("as THE QUEUE is then");
        GangMatrix x = Edges.with(8);
        x.set(Edges.MOST, 1);
        x.share(1, 2);
        Edges.job(x, 0, 4, 9, 0);
        Edges.job(x, 1, 1, 1, 1);
        Edges.due("done", x.quantum(1), 1);
        Edges.yes("down", x.down(7));
        Edges.job(x, 2, 8, 9, 2);
        Edges.job(x, 3, 1, 9, 0);
        Edges.job(x, 4, 1, 9, 1);
        x.set(Edges.ORDER, 1);
        Edges.queue(x, 2, 4, 3);
        Edges.yes("one may pass by", x.set(Edges.BACKFILL, 1));
        Edges.at(x, 4, 0, 4);
        Edges.queue(x, 2, 3);
        Edges.due("killed: the next is first", x.kill(2), 1);
        Edges.at(x, 3, 0, 5);
        Edges.due("PLACED by BACKFILL", x.count(9), 1);
    }

    private static void passedOfTheFirst() {
        Edges.sentence("who can be PLACED is, PASSED of the first is one more");
        GangMatrix x = Edges.restless();
        Edges.line(x, 0, 0, 2, 2, 0, 4);
        Edges.due("PASSED", x.of(1, Edges.PASSED), 1);
        Edges.due("PASSED of those behind", x.of(3, Edges.PASSED) + x.of(4, Edges.PASSED), 0);
        Edges.due("its place is free at last", x.kill(0) + x.kill(2), 2);
        // behind kill(0) 3 passed by, behind kill(2) 4 did: still no room for 8
        Edges.due("PASSED", x.of(1, Edges.PASSED), 3);
        Edges.due("killed", x.kill(3) + x.kill(4), 2);
        Edges.at(x, 1, 0, 0);
        Edges.due("PASSED stays", x.of(1, Edges.PASSED), 3);
        Edges.line(x, 0, 0, 1, 1, 0, 0);
    }

    /** Behind one done call one of those that wait is placed, and no more than one. */
    private static void wentOnOnce(GangMatrix x, int column) {
        Edges.at(x, 3, 0, column);
        Edges.queue(x, 1, 4);
        Edges.due("PASSED", x.of(1, Edges.PASSED), 2);
    }

    private static void goesOnBehindSet() {
        Edges.sentence("It GOES ON behind each call of set");
        for (int what = 1; what <= 9; what++) {
            GangMatrix x = Edges.restless();
            Edges.yes("as it is told", x.set(what, x.look(what)));
            wentOnOnce(x, 5);
        }
    }

    private static void goesOnBehindShare() {
        Edges.sentence("It GOES ON behind each call of .. share");
        GangMatrix x = Edges.restless();
        Edges.yes("share", x.share(5, 1));
        wentOnOnce(x, 5);
    }

    private static void goesOnBehindJob() {
        Edges.sentence("It GOES ON behind each call of .. job");
        GangMatrix x = Edges.restless();
        Edges.job(x, 5, 8, 9, 0);
        Edges.at(x, 3, 0, 5);
        Edges.queue(x, 1, 4, 5);
        Edges.held(x, 6, 8, 9, 0);
        Edges.at(x, 4, 0, 6);
        Edges.queue(x, 1, 5);
    }

    private static void goesOnBehindKill() {
        Edges.sentence("It GOES ON behind each call of .. kill");
        GangMatrix x = Edges.restless();
        Edges.due("killed", x.kill(2), 1);
        wentOnOnce(x, 4);
    }

    private static void goesOnBehindDown() {
        Edges.sentence("It GOES ON behind each call of .. down");
        GangMatrix x = Edges.restless();
        Edges.yes("down", x.down(7));
        wentOnOnce(x, 5);
    }

    private static void goesOnBehindUp() {
        Edges.sentence("It GOES ON behind each call of .. up");
        GangMatrix x = Edges.restless();
        Edges.yes("down", x.down(7));
        wentOnOnce(x, 5);
        Edges.yes("up", x.up(7));
        Edges.at(x, 4, 0, 6);
        Edges.queue(x, 1);
    }

    private static void goesOnBehindUnify() {
        Edges.sentence("It GOES ON behind each call of .. unify");
        GangMatrix x = Edges.restless();
        Edges.due("none goes", x.unify(), 0);
        wentOnOnce(x, 5);
    }

    private static void goesOnBehindRepack() {
        Edges.sentence("It GOES ON behind each call of .. repack");
        GangMatrix x = Edges.restless();
        Edges.due("SLOTS", x.repack(), 1);
        wentOnOnce(x, 5);
    }

    private static void goesOnBehindMove() {
        Edges.sentence("It GOES ON behind each call of .. move");
        GangMatrix x = Edges.restless();
        Edges.yes("move", x.move(2, 7));
        wentOnOnce(x, 4);
    }

    /** Two jobs of size 4 in columns 0 to 3 of two slots, one of size 16 that waits until there is one slot less. */
    private static GangMatrix loaded() {
        GangMatrix x = Edges.with(16);
        x.set(Edges.MOST, 2);
        x.set(Edges.STOP, 0);
        Edges.job(x, 0, 4, 9, 0);
        Edges.job(x, 1, 4, 9, 0);
        Edges.yes("move", x.move(1, 0));
        Edges.job(x, 2, 16, 9, 0);
        Edges.queue(x, 2);
        return x;
    }

    private static void goesOnBehindMigrate() {
        Edges.sentence("It GOES ON behind each call of .. migrate");
        GangMatrix x = loaded();
        Edges.yes("migrate", x.migrate(1));
        Edges.at(x, 1, 0, 4);
        Edges.at(x, 2, 1, 0);
    }

    private static void goesOnBehindRelay() {
        Edges.sentence("It GOES ON behind each call of .. relay");
        GangMatrix x = loaded();
        Edges.yes("relay", x.relay());
        Edges.at(x, 1, 0, 4);
        Edges.at(x, 2, 1, 0);
    }

    private static void goesOnBehindUrge() {
        Edges.sentence("It GOES ON behind each call of .. urge");
        GangMatrix x = Edges.restless();
        Edges.yes("urge", x.urge(4));
        Edges.at(x, 4, 0, 5);
        Edges.at(x, 3, 0, 6);
        Edges.queue(x, 1);
        Edges.due("PASSED by BACKFILL alone", x.of(1, Edges.PASSED), 2);
    }

    private static void refusedDoesNotGoOn() {
        Edges.sentence("(It GOES ON behind each call) that is done (not refused)");
        GangMatrix x = Edges.restless();
        Edges.no("set", x.set(Edges.MOST, 9));
        Edges.no("set p", x.set(Edges.P, 8));
        Edges.no("share", x.share(0, 10));
        Edges.due("job", x.job(9, 1, 0, Edges.NONE), Edges.NONE);
        Edges.due("kill", x.kill(5), Edges.NONE);
        Edges.no("down", x.down(8));
        Edges.no("up", x.up(7));
        Edges.no("move", x.move(0, 4));
        Edges.no("migrate", x.migrate(0));
        Edges.no("relay", x.relay());
        Edges.no("urge", x.urge(0));
        Edges.queue(x, 1, 3, 4);
        Edges.same("what is refused", x, Edges.restless());
    }

    private static void othersDoNotGoOn() {
        Edges.sentence("It GOES ON behind each call of set .. urge (and behind no other)");
        GangMatrix x = Edges.restless();
        Edges.yes("taken", x.image(true));
        Edges.yes("gone back to", x.image(false));
        x.weigh(0, 0);
        x.pack(0);
        x.urged(3, 0);
        x.thin(2);
        x.where(1, 0);
        x.free(0, 1, 0);
        x.cell(0, 0);
        x.load(0);
        x.user(0, 5);
        x.slot(0, 0);
        x.lends(0, 0);
        x.would(9, 0);
        x.when(0);
        Edges.queue(x, 1, 3, 4);
        Edges.same("what only asks", x, Edges.restless());
        Edges.due("later", x.later(9, 1, 1, 0), 1);
        Edges.queue(x, 1, 3, 4);
    }
}
