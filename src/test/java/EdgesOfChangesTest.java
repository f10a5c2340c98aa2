/** Edges that ==== 4 of the document names: kill, DOWN, MOVED, weighed, packed, urged, thought, log, image. */
public final class EdgesOfChangesTest {
    public static void main(String[] args) {
        runAll();
        Edges.end("edges of ==== 4");
    }

    static void runAll() {
        killNeitherDoneNorKilled();
        killEndIsTime();
        killHeldOnes();
        killChainOfSixty();
        downOfOneThatIsNot();
        downBlocks();
        downByNumber();
        downPutsBack();
        downNothingLost();
        movedToAMultiple();
        movedElsewhere();
        movedToNoDown();
        movedItsSlotMayGo();
        movedToTheFirstSlot();
        movedToANewSlot();
        movedForMost();
        stoppedRoundedUp();
        stoppedIsSetAnew();
        weighedMostAside();
        weighedLeastColumn();
        weighedWithoutBest();
        weighedSaved();
        weighedGain();
        migrateNotAbove();
        migrateWithoutBest();
        migrateBySlot();
        packNothing();
        packByWidth();
        packTheOneThatItHas();
        packNoDown();
        relayNotAbove();
        relayByNumber();
        urgeOnlyWaiting();
        urgeNoDown();
        urgeSlotsThatThereAre();
        urgeLeastLoss();
        urgeLossOfTheBlock();
        urgeFewest();
        urgeFirstSlotLeastColumn();
        urgePutsBackByNumber();
        urgeSlotStays();
        urgeWithoutABlock();
        thinUpTo();
        thinEach();
        thinNoDown();
        whenThreeHundred();
        thoughtStaysNot();
        logLatestSixty();
        logCameAndKilled();
        logDoneSlots();
        logBackSlots();
        logMoved();
        logUnified();
        imageAsItWas();
        imageOfAllLines();
        imageMoreThanOnce();
        imageTakenAnew();
    }

    private static void killNeitherDoneNorKilled() {
        Edges.sentence("TO KILL a JOB (neither DONE nor KILLED)");
        GangMatrix x = Edges.with(4);
        x.set(Edges.MOST, 1);
        Edges.job(x, 0, 4, 1, 0);
        Edges.due("done", x.quantum(1), 1);
        Edges.due("DONE", x.kill(0), Edges.NONE);
        Edges.job(x, 1, 4, 9, 0);
        Edges.job(x, 2, 4, 9, 0);
        Edges.held(x, 3, 4, 9, 2);
        Edges.due("HELD", x.kill(3), 1);
        Edges.due("WAITING", x.kill(2), 1);
        Edges.due("PLACED", x.kill(1), 1);
        for (int j = 1; j <= 3; j++) Edges.due("KILLED", x.kill(j), Edges.NONE);
        Edges.state(x, 0, Edges.DONE);
        Edges.due("KILLED", x.look(18), 3);
    }

    private static void killEndIsTime() {
        Edges.sentence("it is KILLED (END is TIME)");
        GangMatrix x = Edges.with(4);
        Edges.job(x, 0, 4, 9, 0);
        Edges.held(x, 1, 4, 9, 0);
        x.quantum(4);
        Edges.due("both", x.kill(0), 2);
        for (int j = 0; j < 2; j++) {
            Edges.state(x, j, Edges.KILLED);
            Edges.due("END", x.of(j, Edges.END), 4);
            Edges.due("SLOT", x.of(j, Edges.SLOT), Edges.NONE);
            Edges.due("COLUMN", x.of(j, Edges.COLUMN), Edges.NONE);
        }
        Edges.due("LEFT", x.of(0, Edges.LEFT), 5);
        Edges.due("it is not WASTED", x.count(5), 0);
        Edges.job(x, 2, 4, 9, 0);
        Edges.due("KILLED as it came", x.kill(2), 1);
        Edges.due("END", x.of(2, Edges.END), 4);
    }

    private static void killHeldOnes() {
        Edges.sentence("so is each one that is HELD by it (its AFTER), by number, each with its own right behind it");
        GangMatrix x = Edges.with(4);
        x.set(Edges.MOST, 1);
        int[] after = {Edges.NONE, Edges.NONE, 0, 1, 0, 0, 2, 2, 6};
        for (int j = 0; j < after.length; j++) Edges.held(x, j, 4, 9, after[j]);
        Edges.due("killed", x.kill(0), 7);
        int[] order = {0, 2, 6, 8, 7, 4, 5};
        // 1 is PLACED behind them all
        Edges.line(x, 0, 0, 1, 1, 0, 0);
        for (int i = 0; i < order.length; i++) {
            Edges.line(x, order.length - i, 0, 4, order[i], Edges.NONE, Edges.NONE);
        }
        Edges.state(x, 3, Edges.HELD);
    }

    private static void killChainOfSixty() {
        Edges.sentence("so is each one that is HELD by it: sixty, one behind the other");
        GangMatrix x = Edges.with(4);
        for (int j = 0; j < 60; j++) Edges.held(x, j, 1, 9, j - 1);
        Edges.due("the last alone", x.kill(59), 1);
        Edges.due("from the middle on", x.kill(30), 29);
        Edges.due("the rest", x.kill(0), 30);
        Edges.due("KILLED", x.look(18), 60);
        for (int i = 0; i < 30; i++) Edges.due("line " + i, x.log(i, 2), 29 - i);
        for (int i = 30; i < 59; i++) Edges.due("line " + i, x.log(i, 2), 88 - i);
        Edges.due("line 59", x.log(59, 2), 59);
        x = Edges.with(4);
        for (int j = 0; j < 60; j++) Edges.held(x, j, 1, 9, j == 59 ? 0 : j - 1);
        Edges.due("the last is behind the first", x.kill(0), 60);
        for (int i = 0; i < 60; i++) Edges.due("line " + i, x.log(i, 2), 59 - i);
    }

    private static void downOfOneThatIsNot() {
        Edges.sentence("DOWN (told of a COLUMN that is not)");
        GangMatrix x = Edges.with(8);
        Edges.job(x, 0, 8, 9, 0);
        Edges.yes("down", x.down(7));
        Edges.no("it is", x.down(7));
        Edges.no("it is", x.down(7));
        Edges.due("RESTARTS", x.of(0, Edges.RESTARTS), 1);
        Edges.due("DOWN", x.look(21), 1);
        Edges.yes("another", x.down(0));
        Edges.due("DOWN", x.look(21), 2);
        Edges.due("RESTARTS", x.of(0, Edges.RESTARTS), 1);
    }

    private static void downBlocks() {
        Edges.sentence("the JOBS whose BLOCKS have it are put back");
        for (int column = 0; column < 8; column++) {
            GangMatrix x = Edges.with(8);
            Edges.job(x, 0, 3, 9, 0);
            Edges.job(x, 1, 1, 9, 0);
            Edges.yes("down", x.down(column));
            Edges.due("job 0, column " + column, x.of(0, Edges.RESTARTS), column < 4 ? 1 : 0);
            Edges.due("job 1, column " + column, x.of(1, Edges.RESTARTS), column == 4 ? 1 : 0);
        }
    }

    private static void downByNumber() {
        Edges.sentence("are put back, by number: WAITING");
        GangMatrix x = Edges.with(4);
        x.set(Edges.STOP, 0);
        Edges.job(x, 0, 2, 9, 0);
        Edges.job(x, 1, 2, 9, 0);
        Edges.job(x, 2, 4, 9, 0);
        Edges.yes("move", x.move(0, 2));
        // slots: 1; 2; 0
        Edges.yes("down", x.down(3));
        Edges.line(x, 4, 0, 5, 0, 2, 2);
        Edges.line(x, 3, 0, 5, 1, 0, 2);
        Edges.line(x, 2, 0, 5, 2, 1, 0);
        // then it goes on, as they came to wait
        Edges.at(x, 0, 0, 0);
        Edges.at(x, 1, 1, 0);
        Edges.queue(x, 2);
    }

    private static void downPutsBack() {
        Edges.sentence("WASTED more by SIZE times (KEPT less LEFT), LEFT is KEPT, STOPPED 0, RESTARTS one more");
        GangMatrix x = Edges.with(8);
        x.set(Edges.SAVE, 3);
        Edges.job(x, 0, 5, 9, 0);
        x.quantum(5);
        Edges.due("KEPT", x.of(0, Edges.KEPT), 6);
        Edges.due("LEFT", x.of(0, Edges.LEFT), 4);
        Edges.yes("down", x.down(6));
        Edges.due("WASTED", x.count(5), 10);
        Edges.due("LEFT", x.of(0, Edges.LEFT), 6);
        Edges.due("KEPT", x.of(0, Edges.KEPT), 6);
        Edges.due("RAN stays", x.of(0, Edges.RAN), 5);
        Edges.due("USED stays", x.user(0, 1), 25);
        Edges.due("RESTARTS", x.of(0, Edges.RESTARTS), 1);
        Edges.due("SLOT", x.of(0, Edges.SLOT), Edges.NONE);
        x.set(Edges.STOP, 9);
        Edges.job(x, 1, 1, 9, 0);
        Edges.no("no SLOT is there", x.urge(1));
        Edges.yes("up", x.up(6));
        Edges.at(x, 0, 0, 0);
        Edges.due("first PLACED stays", x.of(0, Edges.FIRST), 0);
        Edges.yes("move", x.move(1, 7));
        Edges.due("STOPPED", x.of(1, Edges.STOPPED), 3);
        Edges.yes("down", x.down(7));
        Edges.due("STOPPED", x.of(1, Edges.STOPPED), 0);
    }

    private static void downNothingLost() {
        Edges.sentence("put back: WASTED more by SIZE times (KEPT less LEFT), which are the same");
        GangMatrix x = Edges.with(4);
        x.set(Edges.SAVE, 1);
        Edges.job(x, 0, 2, 9, 0);
        x.quantum(3);
        Edges.yes("down", x.down(0));
        Edges.due("nothing WASTED", x.count(5), 0);
        Edges.due("RESTARTS all the same", x.count(8), 1);
        Edges.at(x, 0, 0, 2);
        Edges.due("LEFT", x.of(0, Edges.LEFT), 6);
        Edges.yes("down, it has not run since", x.down(2));
        Edges.due("RESTARTS", x.of(0, Edges.RESTARTS), 2);
        Edges.state(x, 0, Edges.WAITING);
    }

    private static void movedToAMultiple() {
        Edges.sentence("MOVED to a COLUMN c: .. (c a multiple of its WIDTH)");
        for (int size = 1; size <= 8; size++) {
            int width = size == 1 ? 1 : size == 2 ? 2 : size <= 4 ? 4 : 8;
            for (int c = 1; c < 16; c++) {
                GangMatrix x = Edges.with(16);
                Edges.job(x, 0, size, 9, 0);
                Edges.due("size " + size + " to " + c, x.move(0, c) ? 1 : 0, c % width == 0 ? 1 : 0);
                Edges.due("COLUMN", x.of(0, Edges.COLUMN), c % width == 0 ? c : 0);
            }
        }
        GangMatrix x = Edges.with(16);
        Edges.job(x, 0, 4, 9, 0);
        for (int c : new int[] {-4, -1, 16, 20, Edges.LOWEST, 2147483644, Edges.HIGHEST}) {
            Edges.no("no COLUMN " + c, x.move(0, c));
        }
        Edges.due("MOVES", x.of(0, Edges.MOVES), 0);
    }

    private static void movedElsewhere() {
        Edges.sentence("MOVED to a COLUMN c: .. (unlike the one it has)");
        GangMatrix x = Edges.with(4);
        Edges.job(x, 0, 2, 9, 0);
        Edges.no("the one it has", x.move(0, 0));
        Edges.yes("another", x.move(0, 2));
        Edges.no("the one it has now", x.move(0, 2));
        Edges.yes("the one it had", x.move(0, 0));
        Edges.job(x, 1, 4, 9, 0);
        Edges.no("there is no other", x.move(1, 0));
        Edges.due("MOVES of all", x.count(6), 2);
    }

    private static void movedToNoDown() {
        Edges.sentence("MOVED to a COLUMN c: .. (no DOWN)");
        for (int down = 4; down < 8; down++) {
            GangMatrix x = Edges.with(8);
            Edges.job(x, 0, 3, 9, 0);
            Edges.yes("down", x.down(down));
            Edges.no("column " + down + " is DOWN", x.move(0, 4));
            Edges.at(x, 0, 0, 0);
            Edges.yes("up", x.up(down));
            Edges.yes("none is DOWN", x.move(0, 4));
        }
    }

    private static void movedItsSlotMayGo() {
        Edges.sentence("MOVED: it is taken out (its SLOT may go)");
        GangMatrix x = Edges.with(4);
        Edges.job(x, 0, 2, 9, 0);
        Edges.job(x, 1, 4, 9, 0);
        Edges.job(x, 2, 4, 9, 0);
        Edges.yes("move", x.move(0, 2));
        Edges.at(x, 1, 0, 0);
        Edges.at(x, 2, 1, 0);
        Edges.at(x, 0, 2, 2);
        Edges.due("SLOTS", x.look(13), 3);
        Edges.job(x, 3, 1, 9, 0);
        Edges.at(x, 3, 2, 0);
        Edges.yes("its SLOT has another", x.move(0, 0) && x.look(13) == 4);
        Edges.at(x, 3, 2, 0);
        Edges.at(x, 0, 3, 0);
    }

    private static void movedToTheFirstSlot() {
        Edges.sentence("MOVED: .. then it is in the first SLOT where that BLOCK is FREE");
        GangMatrix x = Edges.with(4);
        Edges.job(x, 0, 4, 9, 0);
        for (int j = 1; j <= 6; j++) Edges.job(x, j, 2, 9, 0);
        Edges.due("killed", x.kill(2) + x.kill(4), 2);
        // slots: 0; 1 in columns 0, 1; 3 in 0, 1; 5 in 0, 1 and 6
        Edges.yes("FREE in slots 1 and 2", x.move(5, 2));
        Edges.at(x, 5, 1, 2);
        Edges.yes("FREE in none, its own goes", x.move(3, 2));
        Edges.at(x, 6, 2, 2);
        Edges.at(x, 3, 3, 2);
        Edges.yes("FREE in slot 2, its own goes", x.move(3, 0));
        Edges.at(x, 3, 2, 0);
        x = Edges.with(8);
        Edges.job(x, 0, 2, 9, 0);
        Edges.job(x, 1, 2, 9, 0);
        Edges.yes("FREE in its own", x.move(0, 4));
        Edges.at(x, 0, 0, 4);
    }

    private static void movedToANewSlot() {
        Edges.sentence("MOVED: .. or in a new one behind all");
        GangMatrix x = Edges.with(4);
        Edges.job(x, 0, 4, 99, 0);
        Edges.job(x, 1, 2, 99, 1);
        x.quantum(3);
        Edges.due("PASS", x.slot(0, 2), 1000000);
        Edges.yes("move", x.move(1, 2));
        Edges.at(x, 1, 1, 2);
        Edges.due("PASS of a new one", x.slot(1, 2), 0);
        Edges.due("the least there is", x.slot(0, 2), 0);
        Edges.due("TURNS", x.slot(1, 3), 0);
    }

    private static GangMatrix fullForMove(int most) {
        GangMatrix x = Edges.with(4);
        Edges.job(x, 0, 2, 9, 0);
        Edges.job(x, 1, 2, 9, 0);
        Edges.job(x, 2, 2, 9, 0);
        x.set(Edges.MOST, most);
        return x;
    }

    private static void movedForMost() {
        Edges.sentence("MOVED: .. refused if that can't be for MOST");
        GangMatrix x = fullForMove(2);
        Edges.no("FREE in none of two SLOTS", x.move(1, 0));
        Edges.same("what is refused", x, fullForMove(2));
        x = fullForMove(3);
        Edges.yes("one more may be", x.move(1, 0));
        Edges.at(x, 1, 2, 0);
        x = fullForMove(2);
        Edges.yes("its own SLOT goes, so one more may be", x.move(2, 2));
        Edges.at(x, 2, 1, 2);
        x = fullForMove(1);
        Edges.no("its own SLOT goes, but one is left", x.move(2, 2));
        Edges.at(x, 2, 1, 0);
        Edges.same("what is refused", x, fullForMove(1));
        x = fullForMove(1);
        Edges.yes("FREE in slot 1, whatever MOST is", x.move(0, 2));
        Edges.at(x, 0, 1, 2);
    }

    private static void stoppedRoundedUp() {
        Edges.sentence("STOPPED is STOP times SIZE by 4, rounded up; MOVES one more");
        int[][] due = {{1, 1, 1}, {1, 2, 1}, {1, 3, 1}, {1, 4, 1}, {1, 5, 2}, {1, 8, 2}, {3, 3, 3}, {3, 4, 3}, {5, 1, 2},
            {0, 16, 0}, {9, 1, 3}, {9, 9, 21}, {9, 16, 36}, {4, 7, 7}, {2, 6, 3}};
        for (int[] d : due) {
            GangMatrix x = Edges.with(32);
            x.set(Edges.STOP, d[0]);
            Edges.job(x, 0, d[1], 9, 0);
            Edges.yes("move", x.move(0, 16));
            Edges.due("STOP " + d[0] + ", SIZE " + d[1], x.of(0, Edges.STOPPED), d[2]);
            Edges.due("MOVES", x.of(0, Edges.MOVES), 1);
        }
    }

    private static void stoppedIsSetAnew() {
        Edges.sentence("STOPPED is STOP times SIZE by 4 (whatever it was)");
        GangMatrix x = Edges.with(4);
        x.set(Edges.STOP, 9);
        Edges.job(x, 0, 2, 9, 0);
        Edges.yes("move", x.move(0, 2));
        Edges.due("STOPPED", x.of(0, Edges.STOPPED), 5);
        Edges.yes("move", x.move(0, 0));
        Edges.due("STOPPED", x.of(0, Edges.STOPPED), 5);
        x.quantum(2);
        x.set(Edges.STOP, 0);
        Edges.yes("move", x.move(0, 2));
        Edges.due("STOPPED", x.of(0, Edges.STOPPED), 0);
        Edges.due("MOVES", x.of(0, Edges.MOVES), 3);
    }

    private static void weighed(GangMatrix x, int job, int... want) {
        for (int k = 0; k < want.length; k++) Edges.due("weigh(" + job + ", " + k + ")", x.weigh(job, k), want[k]);
    }

    private static void weighedMostAside() {
        Edges.sentence("TO WEIGH a JOB PLACED: of all c that it could be MOVED to, MOST aside");
        GangMatrix x = Edges.with(4);
        x.set(Edges.MOST, 1);
        Edges.job(x, 0, 2, 9, 0);
        Edges.job(x, 1, 2, 9, 0);
        Edges.no("it can't be for MOST", x.move(0, 2));
        weighed(x, 0, 2, -1, -36, 2, 0);
        weighed(x, 1, 0, -1, -36, 2, 0);
    }

    private static void weighedLeastColumn() {
        Edges.sentence("BEST is that for which the greatest LOAD would be least, of several the least c");
        GangMatrix x = Edges.with(8);
        x.set(Edges.STOP, 0);
        Edges.job(x, 0, 2, 9, 0);
        weighed(x, 0, 2, 0);
        Edges.yes("move", x.move(0, 4));
        weighed(x, 0, 0, 0);
        Edges.job(x, 1, 1, 9, 0);
        // with job 1 it would be two in column 0
        weighed(x, 0, 2, 0);
        Edges.job(x, 2, 8, 9, 0);
        weighed(x, 0, 2, 0);
        Edges.yes("move", x.move(1, 5));
        // three in column 5
        weighed(x, 1, 0, 1);
        weighed(x, 0, 0, 1);
        x = Edges.with(4);
        x.set(Edges.STOP, 0);
        int[] column = {0, 0, 0, 1, 3};
        for (int j = 0; j < 5; j++) {
            Edges.job(x, j, 1, 9, 0);
            if (x.of(j, Edges.COLUMN) != column[j]) Edges.yes("move", x.move(j, column[j]));
        }
        // three in column 0 in any case, so two in column 1 are as good as one in column 2
        weighed(x, 4, 1, 0);
    }

    private static void weighedWithoutBest() {
        Edges.sentence("of all c that it could be MOVED to (there is none)");
        GangMatrix x = Edges.with(4);
        Edges.job(x, 0, 3, 9, 0);
        weighed(x, 0, Edges.NO_WEIGHT, Edges.NO_WEIGHT, Edges.NO_WEIGHT, Edges.NO_WEIGHT, Edges.NO_WEIGHT);
        Edges.due("killed", x.kill(0), 1);
        Edges.job(x, 1, 2, 9, 0);
        weighed(x, 1, 2);
        Edges.yes("down", x.down(3));
        weighed(x, 1, Edges.NO_WEIGHT, Edges.NO_WEIGHT, Edges.NO_WEIGHT, Edges.NO_WEIGHT, Edges.NO_WEIGHT);
        Edges.yes("up", x.up(3));
        weighed(x, 1, 2);
    }

    private static void weighedSaved() {
        Edges.sentence("SAVED: the greatest LOAD as it is less that");
        GangMatrix x = Edges.with(4);
        x.set(Edges.STOP, 0);
        for (int j = 0; j < 4; j++) {
            Edges.job(x, j, 1, 9, 0);
            if (j > 0) Edges.yes("move", x.move(j, 0));
            Edges.due("with " + (j + 1) + " in column 0", x.weigh(j, 1), j == 0 ? 0 : 1);
            Edges.due("BEST", x.weigh(j, 0), 1);
        }
        Edges.job(x, 4, 1, 9, 0);
        Edges.at(x, 4, 0, 1);
        Edges.due("of one beside them nothing", x.weigh(4, 1), 0);
        Edges.due("it is the least that counts", x.weigh(4, 0), 2);
    }

    private static void weighedGain() {
        Edges.sentence("GAIN: SAVED times p times the least LEFT of all JOBS PLACED");
        GangMatrix x = Edges.with(8);
        x.set(Edges.STOP, 0);
        x.set(Edges.MOST, 2);
        Edges.job(x, 0, 4, 50, 0);
        Edges.job(x, 1, 2, 40, 0);
        Edges.yes("move", x.move(1, 0));
        Edges.job(x, 2, 4, 30, 0);
        Edges.job(x, 3, 8, 1, 0);
        Edges.state(x, 3, Edges.WAITING);
        // wherever it goes, there are two
        weighed(x, 1, 2, 0, 0, 0, 0);
        Edges.due("killed", x.kill(2), 1);
        // 40 is its own; 1 of him who waits does not count
        weighed(x, 1, 4, 1, 8 * 40, 0, 1);
        x.quantum(1);
        Edges.due("GAIN", x.weigh(1, 2), 8 * 40);
        x.quantum(1);
        Edges.due("GAIN by what is LEFT", x.weigh(1, 2), 8 * 39);
        x = Edges.with(4);
        x.set(Edges.STOP, 0);
        Edges.job(x, 0, 1, 3, 0);
        Edges.job(x, 1, 1, 7, 0);
        Edges.yes("move", x.move(1, 0));
        Edges.due("the other has less LEFT", x.weigh(1, 2), 4 * 3);
        Edges.due("it has less LEFT itself", x.weigh(0, 2), 4 * 3);
    }

    /** Two jobs of size 2 in columns 0, 1 of two slots: to have one in columns 2, 3 gains 4. */
    private static GangMatrix doubled(int stop) {
        GangMatrix x = Edges.with(4);
        x.set(Edges.STOP, 0);
        Edges.job(x, 0, 2, 1, 0);
        Edges.job(x, 1, 2, 1, 0);
        Edges.yes("move", x.move(1, 0));
        Edges.yes("STOP", x.set(Edges.STOP, stop));
        return x;
    }

    private static void migrateNotAbove() {
        Edges.sentence("TO MIGRATE it: refused, if .. GAIN is not above COST");
        GangMatrix x = doubled(4);
        weighed(x, 1, 2, 1, 4, 4, 0);
        Edges.no("GAIN is COST", x.migrate(1));
        Edges.same("what is refused", x, doubled(4));
        x = doubled(5);
        weighed(x, 1, 2, 1, 4, 6, 0);
        Edges.no("GAIN is below COST", x.migrate(1));
        x = doubled(2);
        weighed(x, 1, 2, 1, 4, 2, 1);
        Edges.yes("GAIN is above COST", x.migrate(1));
        Edges.at(x, 1, 0, 2);
        Edges.due("STOPPED", x.of(1, Edges.STOPPED), 1);
        Edges.due("MOVES", x.of(1, Edges.MOVES), 2);
        x.set(Edges.STOP, 0);
        weighed(x, 1, 0, -1, -4, 0, 0);
        Edges.no("GAIN below 0", x.migrate(1));
        Edges.job(x, 2, 1, 9, 0);
        weighed(x, 2, 1, 0, 0, 0, 0);
        Edges.no("GAIN and COST 0", x.migrate(2));
    }

    private static void migrateWithoutBest() {
        Edges.sentence("TO MIGRATE it: refused, if there is no BEST");
        GangMatrix x = doubled(0);
        Edges.yes("down", x.down(2));
        Edges.no("no BEST", x.migrate(1));
        Edges.at(x, 1, 1, 0);
        Edges.yes("up", x.up(2));
        Edges.yes("BEST", x.migrate(1));
        Edges.at(x, 1, 0, 2);
        Edges.job(x, 2, 4, 9, 0);
        Edges.no("a JOB of all COLUMNS", x.migrate(2));
    }

    private static void migrateBySlot() {
        Edges.sentence("else its BLOCK is at BEST .., and all is REPACKED (it by the SLOT that it had)");
        GangMatrix x = Edges.with(4);
        x.set(Edges.STOP, 0);
        for (int j = 0; j < 6; j++) Edges.job(x, j, 2, 9, 0);
        Edges.due("killed", x.kill(0), 1);
        Edges.job(x, 6, 2, 9, 0);
        Edges.at(x, 6, 0, 0);
        Edges.due("killed", x.kill(1) + x.kill(3), 2);
        // slots: 6; 2; 4 and, in columns 2, 3, 5
        Edges.yes("migrate", x.migrate(6));
        Edges.at(x, 6, 0, 2);
        Edges.at(x, 2, 0, 0);
        Edges.at(x, 5, 1, 2);
        Edges.at(x, 4, 1, 0);
        Edges.line(x, 0, 0, 6, 6, 0, 2);
        Edges.due("TURNS anew", x.slot(0, 3), 0);
    }

    private static void packed(GangMatrix x, int... want) {
        for (int k = 0; k < want.length; k++) Edges.due("pack(" + k + ")", x.pack(k), want[k]);
    }

    private static void packNothing() {
        Edges.sentence("TO PACK: all JOBS PLACED (there is none)");
        GangMatrix x = Edges.with(4);
        packed(x, 0, 0, 0, 0);
        Edges.no("relay", x.relay());
        Edges.yes("down", x.down(0));
        Edges.job(x, 0, 4, 9, 0);
        Edges.state(x, 0, Edges.WAITING);
        packed(x, 0, 0, 0, 0);
        Edges.no("relay", x.relay());
    }

    private static void packByWidth() {
        Edges.sentence("TO PACK: .. BLOCKS anew, by WIDTH, the greatest first, then by number");
        GangMatrix x = Edges.with(4);
        x.set(Edges.STOP, 4);
        Edges.job(x, 0, 1, 9, 0);
        Edges.job(x, 1, 2, 9, 0);
        Edges.yes("move", x.move(1, 0));
        // 1 stays, 0 goes to column 2
        packed(x, 1, 1, 36, 1);
        Edges.yes("relay", x.relay());
        Edges.at(x, 1, 0, 0);
        Edges.at(x, 0, 0, 2);
        Edges.line(x, 0, 0, 6, 0, 0, 2);
        Edges.due("lines", x.look(22), 6);
        x = doubled(2);
        Edges.yes("relay", x.relay());
        Edges.at(x, 0, 0, 0);
        Edges.at(x, 1, 0, 2);
    }

    private static void packTheOneThatItHas() {
        Edges.sentence("of several the one that it has, else the least COLUMN");
        GangMatrix x = Edges.with(8);
        x.set(Edges.STOP, 0);
        Edges.job(x, 0, 2, 9, 0);
        Edges.yes("move", x.move(0, 6));
        packed(x, 1, 0, 0, 0);
        Edges.job(x, 1, 2, 9, 0);
        Edges.yes("move", x.move(1, 6));
        packed(x, 1, 1, 72, 0);
        Edges.yes("relay", x.relay());
        Edges.at(x, 0, 0, 6);
        Edges.at(x, 1, 0, 0);
        x = Edges.with(4);
        x.set(Edges.STOP, 0);
        Edges.job(x, 0, 1, 9, 0);
        Edges.job(x, 1, 1, 9, 0);
        Edges.yes("move", x.move(1, 0));
        packed(x, 1, 1, 36, 0);
        Edges.yes("relay", x.relay());
        Edges.at(x, 0, 0, 0);
        Edges.at(x, 1, 0, 1);
    }

    private static void packNoDown() {
        Edges.sentence("TO PACK: .. each that of its WIDTH (no DOWN)");
        GangMatrix x = Edges.with(8);
        x.set(Edges.STOP, 0);
        Edges.job(x, 0, 2, 9, 0);
        Edges.job(x, 1, 2, 9, 0);
        Edges.yes("move", x.move(1, 0));
        Edges.yes("down", x.down(3));
        Edges.yes("down", x.down(4));
        packed(x, 1, 1, 72, 0);
        Edges.yes("taken", x.image(true));
        Edges.yes("relay", x.relay());
        Edges.at(x, 1, 0, 6);
        Edges.yes("gone back to", x.image(false));
        Edges.yes("down", x.down(7));
        packed(x, 2, 0, 0, 0);
        Edges.no("nothing gained", x.relay());
    }

    private static void relayNotAbove() {
        Edges.sentence("TO RELAY: refused, if GAIN is not above COST");
        GangMatrix x = doubled(4);
        packed(x, 1, 1, 4, 4);
        Edges.no("GAIN is COST", x.relay());
        Edges.same("what is refused", x, doubled(4));
        x = doubled(5);
        packed(x, 1, 1, 4, 6);
        Edges.no("GAIN is below COST", x.relay());
        x = doubled(2);
        packed(x, 1, 1, 4, 2);
        Edges.yes("GAIN is above COST", x.relay());
        packed(x, 1, 0, 0, 0);
        Edges.no("GAIN and COST 0", x.relay());
    }

    private static void relayByNumber() {
        Edges.sentence("else those are at their new COLUMNS (each STOPPED, MOVES as MOVED), and all is REPACKED");
        GangMatrix x = Edges.with(8);
        x.set(Edges.STOP, 0);
        for (int j = 0; j < 3; j++) {
            Edges.job(x, j, 2, 9, 0);
            if (j > 0) Edges.yes("move", x.move(j, 0));
        }
        Edges.job(x, 3, 1, 9, 0);
        Edges.yes("where it stays", x.move(3, 6));
        x.set(Edges.STOP, 4);
        packed(x, 1, 2, 2 * 8 * 9, 8);
        x.quantum(2);
        Edges.yes("relay", x.relay());
        Edges.due("SLOTS", x.look(13), 1);
        int[] moves = {0, 2, 2, 1};
        int[] stopped = {0, 2, 2, 0};
        for (int j = 0; j < 4; j++) {
            Edges.at(x, j, 0, 2 * j);
            Edges.due("MOVES", x.of(j, Edges.MOVES), moves[j]);
            Edges.due("STOPPED", x.of(j, Edges.STOPPED), stopped[j]);
        }
        Edges.due("TURNS", x.slot(0, 3), 0);
        Edges.line(x, 1, 2, 6, 1, 0, 2);
        Edges.line(x, 0, 2, 6, 2, 0, 4);
        Edges.due("lines", x.look(22), 4 + 4 + 3 + 2);
    }

    private static void urged(GangMatrix x, int job, int... want) {
        for (int k = 0; k < 4; k++) Edges.due("urged(" + job + ", " + k + ")", x.urged(job, k), want[k]);
    }

    private static void notUrged(GangMatrix x, int job, String why) {
        urged(x, job, Edges.NONE, Edges.NONE, Edges.NONE, Edges.NONE);
        Edges.no(why, x.urge(job));
    }

    private static void urgeOnlyWaiting() {
        Edges.sentence("TO URGE a JOB WAITING");
        GangMatrix x = Edges.with(4);
        x.set(Edges.MOST, 1);
        Edges.job(x, 0, 4, 1, 0);
        Edges.due("done", x.quantum(1), 1);
        Edges.job(x, 1, 4, 9, 0);
        Edges.held(x, 2, 1, 9, 1);
        Edges.job(x, 3, 1, 9, 0);
        Edges.due("killed", x.kill(3), 1);
        notUrged(x, 0, "DONE");
        notUrged(x, 1, "PLACED");
        notUrged(x, 2, "HELD");
        notUrged(x, 3, "KILLED");
        notUrged(x, 4, "none such");
        notUrged(x, -1, "none such");
        Edges.job(x, 4, 1, 9, 0);
        urged(x, 4, 0, 0, 1, 0);
        Edges.yes("WAITING", x.urge(4));
        notUrged(x, 4, "PLACED now");
    }

    private static void urgeNoDown() {
        Edges.sentence("of all BLOCKS of its WIDTH (no DOWN)");
        GangMatrix x = Edges.with(8);
        x.set(Edges.MOST, 1);
        Edges.job(x, 0, 4, 9, 0);
        Edges.job(x, 1, 4, 9, 0);
        Edges.job(x, 2, 2, 9, 0);
        urged(x, 2, 0, 0, 1, 0);
        Edges.yes("down", x.down(0));
        // 0 is put back; columns 2 and 3 are left for 2, ahead of 0 in THE QUEUE
        Edges.at(x, 2, 0, 2);
        urged(x, 0, 0, 4, 1, 0);
        Edges.yes("urge", x.urge(0));
        Edges.at(x, 0, 0, 4);
        Edges.state(x, 1, Edges.WAITING);
    }

    private static void urgeSlotsThatThereAre() {
        Edges.sentence("BLOCKS .. in SLOTS that there are");
        GangMatrix x = Edges.with(4);
        for (int j = 0; j < 3; j++) Edges.job(x, j, 1, 9, 0);
        Edges.yes("down", x.down(3));
        Edges.job(x, 3, 4, 9, 0);
        Edges.job(x, 4, 1, 9, 0);
        Edges.queue(x, 3, 4);
        Edges.due("a new SLOT would be for it", x.where(1, 0), 1);
        urged(x, 4, 0, 0, 1, 0);
        Edges.yes("urge", x.urge(4));
        Edges.at(x, 4, 0, 0);
        Edges.queue(x, 3, 0);
        Edges.due("SLOTS", x.look(13), 1);
    }

    private static void urgeLeastLoss() {
        Edges.sentence("the one with the least LOSS (.. SIZE times (KEPT less LEFT), together)");
        GangMatrix x = Edges.with(4);
        x.set(Edges.MOST, 2);
        x.set(Edges.ALTERNATES, 0);
        Edges.job(x, 0, 2, 9, 0);
        Edges.job(x, 1, 1, 9, 0);
        Edges.job(x, 2, 1, 9, 0);
        Edges.job(x, 3, 2, 9, 0);
        Edges.job(x, 4, 1, 9, 0);
        Edges.job(x, 5, 1, 9, 0);
        x.quantum(1);
        Edges.job(x, 6, 4, 9, 0);
        // slot 0 lost 2 + 1 + 1, slot 1 nothing
        urged(x, 6, 1, 0, 3, 0);
        x.quantum(1);
        urged(x, 6, 0, 0, 3, 4);
        x.quantum(1);
        urged(x, 6, 1, 0, 3, 4);
        x.set(Edges.SAVE, 1);
        x.quantum(1);
        // all of slot 1 is KEPT
        urged(x, 6, 1, 0, 3, 0);
        x.quantum(1);
        urged(x, 6, 0, 0, 3, 0);
        Edges.yes("urge", x.urge(6));
        Edges.due("nothing WASTED", x.count(5), 0);
        Edges.due("RESTARTS", x.count(8), 3);
    }

    private static void urgeLossOfTheBlock() {
        Edges.sentence("LOSS (of the JOBS there whose BLOCKS share a COLUMN with it ..)");
        GangMatrix x = Edges.with(4);
        x.set(Edges.MOST, 1);
        Edges.job(x, 0, 2, 9, 0);
        Edges.job(x, 1, 1, 9, 0);
        Edges.job(x, 2, 1, 9, 0);
        x.quantum(1);
        Edges.job(x, 3, 1, 9, 0);
        Edges.job(x, 4, 2, 9, 0);
        Edges.job(x, 5, 4, 9, 0);
        // LOSS 2 in columns 0 and 1, 1 in column 2, 1 in column 3
        urged(x, 3, 0, 2, 1, 1);
        urged(x, 4, 0, 0, 1, 2);
        urged(x, 5, 0, 0, 3, 4);
        Edges.due("killed", x.kill(2), 1);
        // 3 is in column 3 now, and has lost nothing
        urged(x, 4, 0, 2, 2, 1);
        x = Edges.with(4);
        x.set(Edges.MOST, 1);
        Edges.job(x, 0, 3, 9, 0);
        x.quantum(1);
        Edges.job(x, 1, 1, 9, 0);
        Edges.yes("down", x.down(0) && x.up(0));
        Edges.at(x, 1, 0, 1);
        urged(x, 0, 0, 0, 1, 0);
    }

    private static void urgeFewest() {
        Edges.sentence("then with the fewest such JOBS");
        GangMatrix x = Edges.with(4);
        x.set(Edges.MOST, 2);
        Edges.job(x, 0, 1, 9, 0);
        Edges.job(x, 1, 1, 9, 0);
        Edges.job(x, 2, 2, 9, 0);
        Edges.job(x, 3, 3, 9, 0);
        Edges.job(x, 4, 4, 9, 0);
        Edges.job(x, 5, 2, 9, 0);
        urged(x, 4, 1, 0, 1, 0);
        // of columns 0, 1 (two), 2, 3 (one) and both halves of slot 1 (one)
        urged(x, 5, 0, 2, 1, 0);
        Edges.yes("urge", x.urge(4));
        Edges.at(x, 4, 1, 0);
        Edges.queue(x, 5, 3);
    }

    private static void urgeFirstSlotLeastColumn() {
        Edges.sentence("then the first SLOT, then the least COLUMN");
        GangMatrix x = Edges.with(8);
        x.set(Edges.MOST, 2);
        for (int j = 0; j < 8; j++) Edges.job(x, j, 2, 9, 0);
        Edges.job(x, 8, 2, 9, 0);
        Edges.job(x, 9, 4, 9, 0);
        urged(x, 8, 0, 0, 1, 0);
        urged(x, 9, 0, 0, 2, 0);
        Edges.yes("down", x.down(1));
        // 0 and 4 are put back, 8 can't be
        Edges.queue(x, 8, 9, 0, 4);
        urged(x, 8, 0, 2, 1, 0);
        Edges.yes("urge", x.urge(8));
        Edges.at(x, 8, 0, 2);
        urged(x, 9, 0, 4, 2, 0);
    }

    private static void urgePutsBackByNumber() {
        Edges.sentence("these are put back as by DOWN, by number, it is there (PLACED");
        GangMatrix x = Edges.with(4);
        x.set(Edges.MOST, 1);
        x.set(Edges.STOP, 9);
        Edges.job(x, 0, 2, 9, 0);
        Edges.job(x, 1, 1, 9, 0);
        Edges.yes("move", x.move(1, 3));
        Edges.due("killed", x.kill(0), 1);
        Edges.job(x, 2, 2, 9, 0);
        x.quantum(2);
        Edges.due("STOPPED", x.of(1, Edges.STOPPED), 1);
        Edges.job(x, 3, 4, 9, 0);
        Edges.yes("urge", x.urge(3));
        Edges.line(x, 2, 2, 5, 1, 0, 3);
        Edges.line(x, 1, 2, 5, 2, 0, 0);
        Edges.line(x, 0, 2, 1, 3, 0, 0);
        Edges.queue(x, 1, 2);
        Edges.due("WASTED", x.count(5), 4);
        Edges.due("LEFT", x.of(2, Edges.LEFT), 9);
        Edges.due("STOPPED", x.of(1, Edges.STOPPED), 0);
        Edges.due("RESTARTS", x.of(1, Edges.RESTARTS) + x.of(2, Edges.RESTARTS), 2);
        Edges.due("first PLACED", x.of(3, Edges.FIRST), 2);
    }

    private static void urgeSlotStays() {
        Edges.sentence("(PLACED; the SLOT stays, though they were all its JOBS)");
        GangMatrix x = Edges.with(4);
        x.set(Edges.MOST, 2);
        Edges.job(x, 0, 4, 9, 0);
        Edges.job(x, 1, 4, 9, 1);
        x.quantum(1);
        Edges.job(x, 2, 4, 9, 2);
        urged(x, 2, 1, 0, 1, 0);
        x.quantum(1);
        // both lost 4
        urged(x, 2, 0, 0, 1, 4);
        x.quantum(1);
        urged(x, 2, 1, 0, 1, 4);
        x.quantum(1);
        Edges.due("PASS", x.slot(0, 2), 0);
        Edges.yes("urge", x.urge(2));
        Edges.at(x, 2, 0, 0);
        Edges.at(x, 1, 1, 0);
        Edges.due("TURNS stay", x.slot(0, 3), 2);
        Edges.due("TURNS stay", x.slot(1, 3), 2);
    }

    private static void urgeWithoutABlock() {
        Edges.sentence("(URGE is) Refused, if there is none");
        GangMatrix x = Edges.with(4);
        Edges.yes("down", x.down(2));
        Edges.job(x, 0, 3, 9, 0);
        notUrged(x, 0, "no SLOT");
        Edges.job(x, 1, 1, 9, 0);
        notUrged(x, 1, "no SLOT, though a new one can be");
        x.set(Edges.BACKFILL, 1);
        Edges.at(x, 1, 0, 0);
        notUrged(x, 0, "no BLOCK without a DOWN COLUMN");
        Edges.state(x, 1, Edges.PLACED);
        Edges.due("nothing put back", x.count(8), 0);
    }

    private static void thinned(GangMatrix x, int... want) {
        for (int k = 0; k < want.length; k++) Edges.due("thin(" + k + ")", x.thin(k), want[k]);
    }

    private static void thinUpTo() {
        Edges.sentence("THIN: the least that the greatest LOAD could be, if up to k JOBS PLACED had other BLOCKS");
        GangMatrix x = Edges.with(4);
        thinned(x, 0, 0, 0);
        x.set(Edges.STOP, 0);
        Edges.job(x, 0, 1, 9, 0);
        thinned(x, 1, 1, 1);
        int[][] want = {{2, 1, 1}, {3, 2, 1}, {4, 3, 2}, {5, 4, 3}};
        x.set(Edges.MOST, 8);
        for (int j = 1; j <= 4; j++) {
            Edges.job(x, j, 1, 9, 0);
            Edges.yes("move", x.move(j, 0));
            thinned(x, want[j - 1]);
        }
        x.set(Edges.MOST, 1);
        thinned(x, 5, 4, 3);
        Edges.job(x, 5, 4, 9, 0);
        Edges.state(x, 5, Edges.WAITING);
        thinned(x, 5, 4, 3);
        x.set(Edges.MOST, 8);
        thinned(x, 6, 5, 4);
    }

    /** Jobs of size 1 in column 0 and one of size 4, which has no other block, in columns 0 to 3. */
    private static GangMatrix stuck(int wide, int all) {
        GangMatrix x = Edges.with(8);
        x.set(Edges.STOP, 0);
        for (int j = 0; j < all; j++) {
            Edges.job(x, j, j == wide ? 4 : 1, 9, 0);
            if (x.of(j, Edges.COLUMN) != 0) Edges.yes("move", x.move(j, 0));
        }
        Edges.yes("down", x.down(7));
        return x;
    }

    private static void thinEach() {
        Edges.sentence("THIN: .. if up to k JOBS PLACED (whichever they are) had other BLOCKS of their WIDTH");
        thinned(stuck(1, 2), 2, 1, 1);
        thinned(stuck(0, 2), 2, 1, 1);
        for (int wide = 0; wide < 3; wide++) thinned(stuck(wide, 3), 3, 2, 1);
        for (int wide = 0; wide < 4; wide++) thinned(stuck(wide, 4), 4, 3, 2);
        GangMatrix x = stuck(9, 2);
        for (int c = 2; c < 7; c++) Edges.yes("down", x.down(c));
        // column 1 alone is left
        thinned(x, 2, 1, 1);
        Edges.job(x, 2, 1, 9, 0);
        thinned(x, 2, 2, 2);
        Edges.yes("move", x.move(2, 0));
        thinned(x, 3, 2, 2);
        Edges.yes("up", x.up(2));
        thinned(x, 3, 2, 1);
    }

    private static void thinNoDown() {
        Edges.sentence("THIN: .. other BLOCKS of their WIDTH (no DOWN)");
        GangMatrix x = Edges.with(8);
        x.set(Edges.STOP, 0);
        for (int j = 0; j < 3; j++) {
            Edges.job(x, j, 2, 9, 0);
            if (j > 0) Edges.yes("move", x.move(j, 0));
        }
        thinned(x, 3, 2, 1);
        Edges.yes("down", x.down(3));
        Edges.yes("down", x.down(5));
        thinned(x, 3, 2, 2);
        Edges.yes("down", x.down(6));
        thinned(x, 3, 3, 3);
        Edges.yes("up", x.up(3));
        thinned(x, 3, 2, 2);
    }

    private static void whenThreeHundred() {
        Edges.sentence("WHEN a JOB would be DONE (TIME), if 300 QUANTA came now");
        GangMatrix x = Edges.with(4);
        Edges.job(x, 0, 2, 300, 0);
        Edges.job(x, 1, 2, 301, 0);
        Edges.due("by the 300th", x.when(0), 300);
        Edges.due("by the 301st", x.when(1), Edges.NONE);
        x.quantum(1);
        Edges.due("now by the 300th", x.when(1), 301);
        Edges.due("as before", x.when(0), 300);
        Edges.held(x, 2, 4, 1, 1);
        Edges.due("HELD until 301", x.when(2), Edges.NONE);
        x.quantum(1);
        Edges.due("HELD until 301", x.when(2), 302);
    }

    private static void thoughtStaysNot() {
        Edges.sentence("IN THOUGHT (nothing of it stays)");
        GangMatrix x = Edges.restless();
        x.later(3, 1, 1, 0);
        GangMatrix y = Edges.restless();
        y.later(3, 1, 1, 0);
        for (int n : new int[] {1, 100}) for (int what = 0; what <= 4; what++) x.would(n, what);
        for (int j = 0; j <= 5; j++) x.when(j);
        for (int k = 0; k <= 2; k++) x.thin(k);
        for (int size = 1; size <= 8; size++) x.where(size, 0);
        for (int k = 0; k < 4; k++) x.pack(k);
        for (int k = 0; k < 4; k++) x.urged(3, k);
        for (int k = 0; k < 5; k++) x.weigh(2, k);
        Edges.same("what is thought", x, y);
        Edges.due("what comes", x.quantum(20), y.quantum(20));
        Edges.same("what was thought", x, y);
    }

    private static void logLatestSixty() {
        Edges.sentence("THE LOG (the latest 60)");
        GangMatrix x = Edges.with(4);
        Edges.due("none", x.log(0, 0), Edges.NONE);
        for (int j = 0; j < 30; j++) Edges.job(x, j, 1, 1, j % 6);
        // 46: all came, sixteen are PLACED
        Edges.due("lines", x.look(22), 46);
        Edges.due("the last there is", x.log(45, 2), 0);
        Edges.due("no more", x.log(46, 0), Edges.NONE);
        for (int j = 30; j < 44; j++) Edges.job(x, j, 1, 1, 0);
        Edges.due("lines", x.look(22), 60);
        Edges.line(x, 59, 0, 0, 0, Edges.NONE, Edges.NONE);
        Edges.due("no more", x.log(60, 0), Edges.NONE);
        Edges.job(x, 44, 1, 1, 0);
        Edges.due("all that came", x.look(22), 61);
        Edges.line(x, 59, 0, 1, 0, 0, 0);
        Edges.line(x, 0, 0, 0, 44, Edges.NONE, Edges.NONE);
        Edges.due("no more", x.log(60, 0), Edges.NONE);
        for (int n = 0; n < 15; n++) Edges.job(x, 45 + n, 1, 1, 0);
        x.quantum(60);
        Edges.due("all are DONE", x.look(17), 60);
        Edges.due("all that came", x.look(22), 180);
        for (int i = 0; i < 60; i++) Edges.due("line " + i, x.log(i, 0) > 0 ? 1 : 0, 1);
        Edges.due("no more", x.log(60, 0), Edges.NONE);
    }

    private static void logCameAndKilled() {
        Edges.sentence("0 came (job(), ARRIVAL; NONE, NONE) .. 4 KILLED (NONE, NONE)");
        GangMatrix x = Edges.with(4);
        x.later(2, 4, 9, 1);
        x.quantum(1);
        Edges.due("told is not come", x.look(22), 0);
        Edges.job(x, 0, 4, 9, 0);
        Edges.line(x, 1, 1, 0, 0, Edges.NONE, Edges.NONE);
        Edges.line(x, 0, 1, 1, 0, 0, 0);
        x.quantum(2);
        Edges.line(x, 1, 2, 0, 1, Edges.NONE, Edges.NONE);
        Edges.line(x, 0, 2, 1, 1, 1, 0);
        Edges.held(x, 2, 1, 1, 1);
        Edges.line(x, 0, 3, 0, 2, Edges.NONE, Edges.NONE);
        Edges.due("killed", x.kill(1), 2);
        Edges.line(x, 1, 3, 4, 1, Edges.NONE, Edges.NONE);
        Edges.line(x, 0, 3, 4, 2, Edges.NONE, Edges.NONE);
    }

    private static void logDoneSlots() {
        Edges.sentence("3 DONE (those it had; SLOT as it is ahead of all that go by .. this QUANTUM's (g))");
        GangMatrix x = Edges.with(8);
        x.set(Edges.STOP, 0);
        Edges.job(x, 0, 5, 1, 0);
        Edges.job(x, 1, 1, 1, 0);
        Edges.yes("move", x.move(1, 5));
        Edges.job(x, 2, 1, 9, 0);
        Edges.yes("move", x.move(2, 6));
        Edges.job(x, 3, 1, 1, 0);
        Edges.yes("move", x.move(3, 6));
        Edges.due("killed", x.kill(2), 1);
        Edges.due("all are done at once", x.quantum(1), 3);
        Edges.line(x, 2, 1, 3, 0, 0, 0);
        Edges.line(x, 1, 1, 3, 1, 1, 5);
        Edges.line(x, 0, 1, 3, 3, 2, 6);
        Edges.due("SLOTS", x.look(13), 0);
    }

    private static void logBackSlots() {
        Edges.sentence("5 put back (those it had; SLOT as it is ahead of all that go by this call)");
        GangMatrix x = Edges.with(8);
        Edges.job(x, 0, 8, 9, 0);
        Edges.job(x, 1, 4, 9, 0);
        Edges.job(x, 2, 4, 9, 0);
        Edges.job(x, 3, 8, 9, 0);
        Edges.yes("down", x.down(7));
        Edges.line(x, 2, 0, 5, 0, 0, 0);
        Edges.line(x, 1, 0, 5, 2, 1, 4);
        Edges.line(x, 0, 0, 5, 3, 2, 0);
        Edges.at(x, 1, 0, 0);
        Edges.due("SLOTS", x.look(13), 1);
    }

    private static void logMoved() {
        Edges.sentence("6 MOVED");
        GangMatrix x = Edges.with(4);
        Edges.job(x, 0, 2, 9, 0);
        Edges.job(x, 1, 4, 9, 0);
        x.quantum(1);
        Edges.yes("move", x.move(0, 2));
        Edges.line(x, 0, 1, 6, 0, 1, 2);
        Edges.no("refused", x.move(0, 2));
        Edges.due("lines", x.look(22), 5);
    }

    private static void logUnified() {
        Edges.sentence("7 UNIFIED (JOB NONE; the first SLOT, the one behind)");
        GangMatrix x = Edges.with(4);
        Edges.job(x, 0, 4, 9, 0);
        for (int j = 1; j < 5; j++) Edges.job(x, j, 2, 9, 0);
        Edges.due("killed", x.kill(2) + x.kill(3), 2);
        x.quantum(1);
        Edges.due("one goes", x.unify(), 1);
        Edges.line(x, 0, 1, 7, Edges.NONE, 1, 2);
        Edges.due("none goes", x.unify(), 0);
        Edges.line(x, 0, 1, 7, Edges.NONE, 1, 2);
    }

    /** All sorts of things that are and were told. */
    private static GangMatrix busy() {
        GangMatrix x = new GangMatrix();
        x.set(Edges.P, 8);
        int[] told = {0, 3, 1, 1, 2, 5, 3, 2, 1, 0};
        for (int what = 1; what < 10; what++) x.set(what, told[what]);
        x.share(1, 4);
        x.down(7);
        int[] size = {4, 2, 8, 1, 3};
        for (int j = 0; j < 5; j++) x.job(size[j], 5 + j, j, Edges.NONE);
        x.job(1, 3, 1, 0);
        x.later(6, 1, 2, 5);
        x.quantum(3);
        x.move(1, 2);
        x.kill(4);
        return x;
    }

    private static void disturb(GangMatrix x) {
        for (int what = 1; what < 10; what++) x.set(what, what == 1 ? 8 : 0);
        x.share(1, 9);
        x.share(2, 9);
        x.up(7);
        x.down(0);
        x.job(1, 9, 3, Edges.NONE);
        x.later(9, 1, 1, 1);
        x.quantum(7);
        x.repack();
        x.urge(2);
        x.kill(0);
        x.kill(1);
    }

    private static void imageAsItWas() {
        Edges.sentence("THE IMAGE: all that is and was told, as it was when it was taken");
        GangMatrix x = busy();
        Edges.yes("taken", x.image(true));
        disturb(x);
        Edges.yes("gone back to", x.image(false));
        Edges.same("what came behind THE IMAGE", x, busy());
        GangMatrix y = busy();
        Edges.due("all goes on", x.quantum(9), y.quantum(9));
        Edges.due("LEFT", x.of(2, Edges.LEFT), y.of(2, Edges.LEFT));
        Edges.due("the arrival", x.of(6, Edges.END), y.of(6, Edges.END));
        Edges.due("lines", x.look(22), y.look(22));
    }

    private static void imageOfAllLines() {
        Edges.sentence("THE IMAGE: all that is (each line and each QUANTUM, though sixty more came since)");
        GangMatrix x = Edges.with(4);
        x.quantum(60);
        comeAndGo(x, 0);
        Edges.yes("taken", x.image(true));
        x.quantum(1);
        comeAndGo(x, 20);
        Edges.job(x, 40, 4, 99, 0);
        x.quantum(70);
        Edges.yes("gone back to", x.image(false));
        for (int i = 0; i < 60; i++) {
            Edges.due("TIME of line " + i, x.log(i, 0), 60);
            Edges.due("what of line " + i, x.log(i, 1), i % 3 == 0 ? 4 : i % 3 == 1 ? 1 : 0);
            Edges.due("JOB of line " + i, x.log(i, 2), 19 - i / 3);
            Edges.due("COLUMN of line " + i, x.log(i, 4), i % 3 == 1 ? 0 : Edges.NONE);
            Edges.due("who ran " + i + " QUANTA ago", x.went(i, 1), 0);
        }
        Edges.due("the first number", x.job(1, 1, 0, Edges.NONE), 20);
    }

    private static void comeAndGo(GangMatrix x, int from) {
        for (int j = from; j < from + 20; j++) {
            Edges.job(x, j, 4, 99, 0);
            Edges.due("killed", x.kill(j), 1);
        }
    }

    private static void imageMoreThanOnce() {
        Edges.sentence("(THE IMAGE) gone back to it may be more than once");
        GangMatrix x = busy();
        Edges.yes("taken", x.image(true));
        for (int i = 0; i < 3; i++) {
            disturb(x);
            Edges.yes("gone back to", x.image(false));
            Edges.yes("and again at once", x.image(false));
        }
        Edges.same("what came behind THE IMAGE", x, busy());
    }

    private static void imageTakenAnew() {
        Edges.sentence("THE IMAGE .. as it was when it was taken (taken anew: the latest)");
        GangMatrix x = busy();
        GangMatrix y = busy();
        Edges.yes("taken", x.image(true));
        disturb(x);
        disturb(y);
        Edges.yes("taken anew", x.image(true));
        x.quantum(5);
        Edges.yes("gone back to", x.image(false));
        Edges.same("what came behind THE IMAGE", x, y);
    }
}
