/**
 * Parallel jobs that run in gangs: a matrix of slots (rows) and processors (columns).
 * The document ../shared/DOC.md says what each public method promises.
 */
public final class GangMatrix {
    public static final int NONE = -1;

    private static final int NOT_WEIGHED = NONE - 999999999;
    private static final int NO_SUCH = NONE - 99999999;
    private static final int NO_SLOT = -2;
    private static final int NO_COLUMN = -3;
    private static final int MOST_QUANTA = 100;
    private static final int WHEN_QUANTA = 300;
    private static final int LAST_TIME = 99999;

    private final Board board;
    private final Board image;
    private final Board thought;
    private final Plans plans;
    private boolean imageTaken;

    public GangMatrix() {
        board = new Board();
        image = new Board();
        thought = new Board();
        plans = new Plans(board);
        imageTaken = false;
    }

    public boolean set(int what, int v) {
        return wentOn(board.tell(what, v));
    }

    public boolean share(int user, int v) {
        return wentOn(board.users.promise(user, v));
    }

    public int job(int size, int work, int user, int after) {
        if (!board.canCome(size, work, user) || !board.jobs.canFollow(after)) {
            return NONE;
        }
        int number = board.come(size, work, user, after);
        board.goOn();
        return number;
    }

    public int later(int time, int size, int work, int user) {
        if (time < board.time || time > LAST_TIME || !board.canCome(size, work, user)) {
            return NONE;
        }
        board.arrivals.add(time, size, work, user);
        return board.arrivals.ahead;
    }

    public int kill(int job) {
        if (!board.jobs.has(job) || board.jobs.state(job) >= Jobs.DONE) {
            return NONE;
        }
        int killed = board.killWithHeld(job);
        board.goOn();
        return killed;
    }

    public int quantum(int n) {
        if (n < 1 || n > MOST_QUANTA) {
            return NONE;
        }
        int done = 0;
        for (int i = 0; i < n; i++) {
            done += board.runOne();
        }
        return done;
    }

    public boolean down(int column) {
        if (!board.hasColumn(column) || board.isDown(column)) {
            return false;
        }
        board.fail(column);
        return wentOn(true);
    }

    public boolean up(int column) {
        if (!board.hasColumn(column) || !board.isDown(column)) {
            return false;
        }
        board.downs &= ~(1 << column);
        return wentOn(true);
    }

    public int unify() {
        int gone = board.unifyAll();
        board.goOn();
        return gone;
    }

    public int repack() {
        board.repackAll();
        int left = board.slots.rows;
        board.goOn();
        return left;
    }

    public boolean move(int job, int column) {
        return wentOn(board.jobs.isPlaced(job) && plans.moveTo(job, column));
    }

    public boolean migrate(int job) {
        return wentOn(board.jobs.isPlaced(job) && plans.migrateToBest(job));
    }

    public int weigh(int job, int what) {
        return board.jobs.isPlaced(job) ? plans.weighed(job, what) : NOT_WEIGHED;
    }

    public int pack(int what) {
        return plans.packed(what);
    }

    public boolean relay() {
        return wentOn(plans.relayAll());
    }

    public boolean urge(int job) {
        return wentOn(board.jobs.isWaiting(job) && plans.urgeIn(job));
    }

    public int urged(int job, int what) {
        return board.jobs.isWaiting(job) ? plans.urgedWhat(job, what) : NONE;
    }

    public int thin(int k) {
        return plans.thinned(k);
    }

    public int where(int size, int what) {
        if (size < 1 || size > board.p() || what < 0 || what > 1) {
            return NONE;
        }
        int spot = board.spotFor(Blocks.widthOf(size));
        if (spot == NONE) {
            return NONE;
        }
        return what == 0 ? Blocks.slotOf(spot) : Blocks.columnOf(spot);
    }

    public int free(int slot, int width, int what) {
        boolean isWidth = width >= 1 && width <= board.p() && Blocks.widthOf(width) == width;
        if (!board.slots.has(slot) || !isWidth || what < 0 || what > 1) {
            return NONE;
        }
        int starts = Blocks.starts(board.freeIn(slot), width);
        return what == 0 ? Integer.bitCount(starts) : Blocks.lowest(starts);
    }

    public int cell(int slot, int column) {
        if (!board.slots.has(slot)) {
            return NO_SLOT;
        }
        return board.hasColumn(column) ? board.jobs.inBlock(slot, column) : NO_COLUMN;
    }

    public int load(int column) {
        return board.hasColumn(column) ? board.slots.loadOf(column) : NONE;
    }

    public int of(int job, int what) {
        if (!board.jobs.has(job) || what < 0 || what >= Jobs.WHATS) {
            return NONE;
        }
        return board.jobs.row[what][job];
    }

    public int user(int user, int what) {
        if (user < 0 || user >= Users.ALL) {
            return NO_SUCH;
        }
        switch (what) {
            case 0: return board.users.share[user];
            case 1: return board.users.used[user];
            case 2: return board.jobs.ofUser(user, Jobs.HELD, Jobs.PLACED);
            case 3: return board.jobs.ofUser(user, Jobs.DONE, Jobs.DONE);
            case 4: return board.jobs.waitedOf(user);
            case 5: return board.users.owed(user);
            default: return NO_SUCH;
        }
    }

    public int slot(int slot, int what) {
        if (!board.slots.has(slot)) {
            return NONE;
        }
        switch (what) {
            case 0: return board.jobs.inSlot(slot);
            case 1: return board.weightOf(slot);
            case 2: return (int) (board.slots.pass[slot] - board.slots.leastPass());
            case 3: return board.slots.turns[slot];
            case 4: return Integer.bitCount(board.slots.busy[slot]);
            case 5: return Integer.bitCount(board.jobs.cellsIn(slot));
            default: return NONE;
        }
    }

    public int queue(int i) {
        int waiting = board.lineUp();
        return i >= 0 && i < waiting ? board.order[i] : NONE;
    }

    public int lends(int slot, int i) {
        if (!board.slots.has(slot)) {
            return NONE;
        }
        board.crew.choose(board.jobs, board.users, slot, true);
        if (i == NONE) {
            return board.crew.lent;
        }
        return board.crew.lentAt(i);
    }

    public int would(int n, int what) {
        if (n < 1 || n > MOST_QUANTA || what < 0 || what > 4) {
            return NONE;
        }
        thought.copyFrom(board);
        for (int i = 0; i < n; i++) {
            thought.runOne();
        }
        switch (what) {
            case 0: return thought.jobs.inState(Jobs.DONE) - board.jobs.inState(Jobs.DONE);
            case 1: return tallied(Board.USED);
            case 2: return tallied(Board.STILL) + tallied(Board.INSIDE) + tallied(Board.OPEN);
            case 3: return thought.slots.rows;
            default: return thought.jobs.waiting;
        }
    }

    public int when(int job) {
        if (!board.jobs.has(job) || board.jobs.state(job) == Jobs.KILLED) {
            return NONE;
        }
        if (board.jobs.state(job) == Jobs.DONE) {
            return board.jobs.row[Jobs.END][job];
        }
        thought.copyFrom(board);
        for (int i = 0; i < WHEN_QUANTA && thought.jobs.state(job) != Jobs.DONE; i++) {
            thought.runOne();
        }
        return thought.jobs.row[Jobs.END][job];
    }

    public int log(int i, int what) {
        return board.lines.valueAt(i, what, 5);
    }

    public int went(int i, int what) {
        return board.gone.valueAt(i, what, 4);
    }

    public int count(int what) {
        return what >= 0 && what < board.tally.length ? board.tally[what] : NONE;
    }

    public boolean image(boolean taken) {
        if (taken) {
            image.copyFrom(board);
            imageTaken = true;
            return true;
        }
        if (imageTaken) {
            board.copyFrom(image);
        }
        return imageTaken;
    }

    public int look(int what) {
        if (what >= 0 && what < board.told.length) {
            return board.told[what];
        }
        switch (what) {
            case 10: return board.time;
            case 11: return board.jobs.came;
            case 12: return board.arrivals.ahead;
            case 13: return board.slots.rows;
            case 14: return board.jobs.waiting;
            case 15: return board.jobs.inState(Jobs.HELD);
            case 16: return board.jobs.inState(Jobs.PLACED);
            case 17: return board.jobs.inState(Jobs.DONE);
            case 18: return board.jobs.inState(Jobs.KILLED);
            case 19: return board.slots.peak();
            case 20: return board.slots.peakColumn();
            case 21: return Integer.bitCount(board.downs);
            case 22: return board.lines.total;
            default: return NO_SUCH;
        }
    }

    /** Only what is done lets the queue go on; what is refused changes nothing. */
    private boolean wentOn(boolean done) {
        if (done) {
            board.goOn();
        }
        return done;
    }

    private int tallied(int what) {
        return thought.tally[what] - board.tally[what];
    }

    /**
     * Sets of columns are held as the bits of an int (p is 32 at most), so that
     * blocks, cells and what is free are compared without a loop over columns.
     */
    private static final class Blocks {
        static final int COLUMNS = 32;
        private static final int[] ALIGNED = {-1, 0x55555555, 0x11111111, 0x01010101, 0x00010001, 1};

        static int bits(int column, int width) {
            return (int) (((1L << width) - 1L) << column);
        }

        static int widthOf(int size) {
            int width = 1;
            while (width < size && width < COLUMNS) {
                width *= 2;
            }
            return width;
        }

        /** The first columns of all blocks of a width whose columns are all among those given. */
        static int starts(int columns, int width) {
            int starts = columns;
            int half = 1;
            for (int k = 1; k < ALIGNED.length && half < width; k++) {
                starts = starts & (starts >>> half) & ALIGNED[k];
                half *= 2;
            }
            return starts;
        }

        static int lowest(int columns) {
            return columns == 0 ? NONE : Integer.bitCount((columns & -columns) - 1);
        }

        static int spot(int slot, int column) {
            return slot * COLUMNS + column;
        }

        static int slotOf(int spot) {
            return spot / COLUMNS;
        }

        static int columnOf(int spot) {
            return spot % COLUMNS;
        }
    }

    /** The latest lines of a record; how many came in all is counted on. */
    private static final class Ring {
        private static final int LATEST = 60;
        private static final int VALUES = 5;
        private final int[][] value = new int[VALUES][LATEST];
        int total;

        void add(int a, int b, int c, int d, int e) {
            int at = Math.floorMod(total, LATEST);
            value[0][at] = a;
            value[1][at] = b;
            value[2][at] = c;
            value[3][at] = d;
            value[4][at] = e;
            total++;
        }

        int valueAt(int back, int what, int values) {
            if (back < 0 || back >= Math.min(total, LATEST)) {
                return NONE;
            }
            if (what < 0 || what >= Math.min(values, VALUES)) {
                return NONE;
            }
            return value[what][Math.floorMod(total - 1 - back, LATEST)];
        }

        void copyFrom(Ring other) {
            for (int k = 0; k < VALUES; k++) {
                System.arraycopy(other.value[k], 0, value[k], 0, LATEST);
            }
            total = other.total;
        }
    }

    private static final class Users {
        static final int ALL = 6;
        private static final int MOST_SHARE = 9;
        final int[] share = {1, 1, 1, 1, 1, 1};
        final int[] used = new int[ALL];
        final int[] rank = new int[ALL];

        boolean promise(int user, int v) {
            if (user < 0 || user >= ALL || v < 1 || v > MOST_SHARE) {
                return false;
            }
            share[user] = v;
            return true;
        }

        /** Users of one RATIO get one rank, so whoever is ordered by it stays in the order he had. */
        void rankAll() {
            for (int u = 0; u < ALL; u++) {
                rank[u] = 0;
                for (int v = 0; v < ALL; v++) {
                    if ((long) used[v] * share[u] < (long) used[u] * share[v]) {
                        rank[u]++;
                    }
                }
            }
        }

        int owed(int user) {
            long allUsed = 0;
            long allShares = 0;
            for (int u = 0; u < ALL; u++) {
                allUsed += used[u];
                allShares += share[u];
            }
            long due = allShares > 0 ? allUsed * share[user] / allShares : 0;
            return (int) (due - used[user]);
        }

        void copyFrom(Users other) {
            System.arraycopy(other.share, 0, share, 0, ALL);
            System.arraycopy(other.used, 0, used, 0, ALL);
        }
    }

    /** All jobs that came, by number, and those waiting, as they came to wait. */
    private static final class Jobs {
        static final int ALL = 60;
        /** Above the greatest number: keys by which jobs are sorted end with the number. */
        static final int NUMBERS = 64;
        static final int WHATS = 19;
        static final int SIZE = 0;
        static final int WORK = 1;
        static final int USER = 2;
        static final int AFTER = 3;
        static final int STATE = 4;
        static final int LEFT = 5;
        static final int KEPT = 6;
        static final int SLOT = 7;
        static final int COLUMN = 8;
        static final int WIDTH = 9;
        static final int RAN = 10;
        static final int EXTRA = 11;
        static final int STOPPED = 12;
        static final int CAME = 13;
        static final int FIRST = 14;
        static final int END = 15;
        static final int RESTARTS = 16;
        static final int PASSED = 17;
        static final int MOVES = 18;
        static final int HELD = 0;
        static final int WAITING = 1;
        static final int PLACED = 2;
        static final int DONE = 3;
        static final int KILLED = 4;

        final int[][] row = new int[WHATS][ALL];
        final int[] line = new int[ALL];
        int came;
        int waiting;

        boolean has(int j) {
            return j >= 0 && j < came;
        }

        int state(int j) {
            return row[STATE][j];
        }

        boolean isPlaced(int j) {
            return has(j) && row[STATE][j] == PLACED;
        }

        boolean isWaiting(int j) {
            return has(j) && row[STATE][j] == WAITING;
        }

        boolean canFollow(int after) {
            return after == NONE || has(after) && row[STATE][after] != KILLED;
        }

        int add(int size, int work, int user, int after, int time) {
            int j = came;
            for (int what = 0; what < WHATS; what++) {
                row[what][j] = 0;
            }
            row[SIZE][j] = size;
            row[WORK][j] = work;
            row[USER][j] = user;
            row[AFTER][j] = after;
            row[LEFT][j] = work;
            row[KEPT][j] = work;
            row[SLOT][j] = NONE;
            row[COLUMN][j] = NONE;
            row[WIDTH][j] = Blocks.widthOf(size);
            row[CAME][j] = time;
            row[FIRST][j] = NONE;
            row[END][j] = NONE;
            came++;
            return j;
        }

        void toLine(int j) {
            row[STATE][j] = WAITING;
            if (waiting < ALL) {
                line[waiting] = j;
                waiting++;
            }
        }

        void fromLine(int j) {
            int stay = 0;
            for (int i = 0; i < waiting; i++) {
                if (line[i] != j) {
                    line[stay] = line[i];
                    stay++;
                }
            }
            waiting = stay;
        }

        int block(int j) {
            return Blocks.bits(row[COLUMN][j], row[WIDTH][j]);
        }

        int cells(int j) {
            return Blocks.bits(row[COLUMN][j], row[SIZE][j]);
        }

        int lossOf(int j) {
            return row[SIZE][j] * (row[KEPT][j] - row[LEFT][j]);
        }

        int inBlock(int slot, int column) {
            for (int j = 0; j < came; j++) {
                if (row[SLOT][j] == slot && (block(j) >>> column & 1) == 1) {
                    return j;
                }
            }
            return NONE;
        }

        int inState(int state) {
            int found = 0;
            for (int j = 0; j < came; j++) {
                if (row[STATE][j] == state) {
                    found++;
                }
            }
            return found;
        }

        int inSlot(int slot) {
            int found = 0;
            for (int j = 0; j < came; j++) {
                if (row[SLOT][j] == slot) {
                    found++;
                }
            }
            return found;
        }

        int cellsIn(int slot) {
            int cells = 0;
            for (int j = 0; j < came; j++) {
                if (row[SLOT][j] == slot) {
                    cells |= cells(j);
                }
            }
            return cells;
        }

        int ofUser(int user, int lowState, int highState) {
            int found = 0;
            for (int j = 0; j < came; j++) {
                if (row[USER][j] == user && row[STATE][j] >= lowState && row[STATE][j] <= highState) {
                    found++;
                }
            }
            return found;
        }

        int waitedOf(int user) {
            int waited = 0;
            for (int j = 0; j < came; j++) {
                if (row[USER][j] == user && row[FIRST][j] != NONE) {
                    waited += row[FIRST][j] - row[CAME][j];
                }
            }
            return waited;
        }

        int leastLeft() {
            int least = NONE;
            for (int j = 0; j < came; j++) {
                if (row[STATE][j] == PLACED && (least == NONE || row[LEFT][j] < least)) {
                    least = row[LEFT][j];
                }
            }
            return Math.max(least, 0);
        }

        void copyFrom(Jobs other) {
            for (int what = 0; what < WHATS; what++) {
                System.arraycopy(other.row[what], 0, row[what], 0, ALL);
            }
            System.arraycopy(other.line, 0, line, 0, ALL);
            came = other.came;
            waiting = other.waiting;
        }
    }

    /** Jobs that were told for a later time, as they were told. */
    private static final class Arrivals {
        private static final int VALUES = 4;
        private final int[][] value = new int[VALUES][Jobs.ALL];
        int ahead;

        void add(int time, int size, int work, int user) {
            if (ahead < Jobs.ALL) {
                value[0][ahead] = time;
                value[1][ahead] = size;
                value[2][ahead] = work;
                value[3][ahead] = user;
                ahead++;
            }
        }

        boolean isDue(int i, int time) {
            return value[0][i] <= time;
        }

        int size(int i) {
            return value[1][i];
        }

        int work(int i) {
            return value[2][i];
        }

        int who(int i) {
            return value[3][i];
        }

        void dropDue(int time) {
            int stay = 0;
            for (int i = 0; i < ahead; i++) {
                if (!isDue(i, time)) {
                    for (int k = 0; k < VALUES; k++) {
                        value[k][stay] = value[k][i];
                    }
                    stay++;
                }
            }
            ahead = stay;
        }

        void copyFrom(Arrivals other) {
            for (int k = 0; k < VALUES; k++) {
                System.arraycopy(other.value[k], 0, value[k], 0, Jobs.ALL);
            }
            ahead = other.ahead;
        }
    }

    /** The rows of the matrix. No two jobs of a slot share a column, so loads follow from busy columns. */
    private static final class Slots {
        static final int ALL = 8;
        final long[] pass = new long[ALL];
        final int[] turns = new int[ALL];
        final int[] busy = new int[ALL];
        int rows;

        boolean has(int slot) {
            return slot >= 0 && slot < rows;
        }

        long leastPass() {
            long least = rows > 0 ? pass[0] : 0;
            for (int s = 1; s < rows; s++) {
                if (pass[s] < least) {
                    least = pass[s];
                }
            }
            return least;
        }

        /** The slot whose turn it is. */
        int next() {
            int next = NONE;
            for (int s = 0; s < rows; s++) {
                if (next == NONE || pass[s] < pass[next]) {
                    next = s;
                }
            }
            return next;
        }

        void open() {
            if (rows < ALL) {
                pass[rows] = leastPass();
                turns[rows] = 0;
                busy[rows] = 0;
                rows++;
            }
        }

        void drop(int slot) {
            for (int s = slot + 1; s < rows; s++) {
                pass[s - 1] = pass[s];
                turns[s - 1] = turns[s];
                busy[s - 1] = busy[s];
            }
            rows--;
        }

        /** The first slot in which columns are not busy; how many slots there are, if in none. */
        int firstClear(int columns) {
            int s = 0;
            while (s < rows && (busy[s] & columns) != 0) {
                s++;
            }
            return s;
        }

        void unite(int first, int behind) {
            busy[first] |= busy[behind];
            pass[first] = Math.min(pass[first], pass[behind]);
            turns[first] += turns[behind];
        }

        void passAllAt(long start) {
            for (int s = 0; s < rows; s++) {
                pass[s] = start;
            }
        }

        int loadOf(int column) {
            int load = 0;
            for (int s = 0; s < rows; s++) {
                load += busy[s] >>> column & 1;
            }
            return load;
        }

        void loadsInto(int[] loads) {
            for (int c = 0; c < loads.length; c++) {
                loads[c] = loadOf(c);
            }
        }

        int peakColumn() {
            int best = 0;
            for (int c = 1; c < Blocks.COLUMNS; c++) {
                if (loadOf(c) > loadOf(best)) {
                    best = c;
                }
            }
            return best;
        }

        int peak() {
            return loadOf(peakColumn());
        }

        void copyFrom(Slots other) {
            System.arraycopy(other.pass, 0, pass, 0, ALL);
            System.arraycopy(other.turns, 0, turns, 0, ALL);
            System.arraycopy(other.busy, 0, busy, 0, ALL);
            rows = other.rows;
        }
    }

    /** Who runs in a quantum: first those of the slot, behind them those its columns are lent to. */
    private static final class Crew {
        final int[] runner = new int[Jobs.ALL];
        private final int[] ready = new int[Jobs.ALL];
        private int readies;
        int own;
        int lent;
        int cells;

        void clear() {
            own = 0;
            lent = 0;
            cells = 0;
        }

        int size() {
            return own + lent;
        }

        int lentAt(int i) {
            return i >= 0 && i < lent ? runner[own + i] : NONE;
        }

        /** Nobody's RATIO may change while the crew is chosen, so it is chosen whole before anyone runs. */
        void choose(Jobs jobs, Users users, int slot, boolean lend) {
            clear();
            readies = 0;
            for (int j = 0; j < jobs.came; j++) {
                if (jobs.isPlaced(j) && jobs.row[Jobs.STOPPED][j] == 0) {
                    sort(jobs, j, slot);
                }
            }
            if (lend && readies > 0) {
                users.rankAll();
                for (int rank = 0; rank < Users.ALL; rank++) {
                    lendTo(jobs, users, rank);
                }
            }
        }

        private void sort(Jobs jobs, int j, int slot) {
            if (jobs.row[Jobs.SLOT][j] == slot) {
                runner[own] = j;
                own++;
                cells |= jobs.cells(j);
            } else {
                ready[readies] = j;
                readies++;
            }
        }

        private void lendTo(Jobs jobs, Users users, int rank) {
            for (int i = 0; i < readies; i++) {
                int j = ready[i];
                boolean inTurn = users.rank[jobs.row[Jobs.USER][j]] == rank;
                if (inTurn && (jobs.cells(j) & cells) == 0) {
                    runner[own + lent] = j;
                    lent++;
                    cells |= jobs.cells(j);
                }
            }
        }
    }

    /** All that is and was told; an image and a thought are boards too. */
    private static final class Board {
        static final int P = 0;
        static final int MOST = 1;
        static final int FIT = 2;
        static final int ORDER = 3;
        static final int BACKFILL = 4;
        static final int PATIENCE = 5;
        static final int STOP = 6;
        static final int SAVE = 7;
        static final int ALTERNATES = 8;
        static final int AUTO = 9;
        private static final int[] LEAST_TOLD = {4, 1, 0, 0, 0, 0, 0, 0, 0, 0};
        private static final int[] MOST_TOLD = {32, 8, 2, 1, 9, 99, 9, 99, 1, 1};

        static final int USED = 0;
        static final int STILL = 1;
        static final int INSIDE = 2;
        static final int OPEN = 3;
        static final int DOWN = 4;
        static final int WASTED = 5;
        static final int MOVED = 6;
        static final int UNIFIED = 7;
        static final int RESTARTED = 8;
        static final int BACKFILLED = 9;
        static final int LENT = 10;

        static final int LOG_CAME = 0;
        static final int LOG_PLACED = 1;
        static final int LOG_BACKFILLED = 2;
        static final int LOG_DONE = 3;
        static final int LOG_KILLED = 4;
        static final int LOG_BACK = 5;
        static final int LOG_MOVED = 6;
        static final int LOG_UNIFIED = 7;

        private static final int MOST_WORK = 9999;
        private static final int TURN = 1000000;
        /** Above the greatest sum of loads that a block can have. */
        private static final int LOADS = 1000;

        final int[] told = {16, 4, 0, 0, 0, 10, 1, 0, 1, 1};
        final int[] tally = new int[11];
        final Jobs jobs = new Jobs();
        final Users users = new Users();
        final Slots slots = new Slots();
        final Arrivals arrivals = new Arrivals();
        final Ring lines = new Ring();
        final Ring gone = new Ring();
        final Crew crew = new Crew();
        final int[] order = new int[Jobs.ALL];
        private final int[] key = new int[Jobs.ALL];
        private final int[] load = new int[Blocks.COLUMNS];
        int time;
        int downs;

        void copyFrom(Board other) {
            System.arraycopy(other.told, 0, told, 0, told.length);
            System.arraycopy(other.tally, 0, tally, 0, tally.length);
            jobs.copyFrom(other.jobs);
            users.copyFrom(other.users);
            slots.copyFrom(other.slots);
            arrivals.copyFrom(other.arrivals);
            lines.copyFrom(other.lines);
            gone.copyFrom(other.gone);
            time = other.time;
            downs = other.downs;
        }

        int p() {
            return told[P];
        }

        int ups() {
            return Blocks.bits(0, told[P]) & ~downs;
        }

        boolean hasColumn(int column) {
            return column >= 0 && column < told[P];
        }

        boolean isDown(int column) {
            return (downs >>> column & 1) == 1;
        }

        int freeIn(int slot) {
            return ups() & ~slots.busy[slot];
        }

        boolean tell(int what, int v) {
            if (what < 0 || what >= told.length || v < LEAST_TOLD[what] || v > MOST_TOLD[what]) {
                return false;
            }
            if (what == P) {
                if (Blocks.widthOf(v) != v || jobs.came > 0 || arrivals.ahead > 0) {
                    return false;
                }
                downs = 0;
            }
            told[what] = v;
            return true;
        }

        void note(int what, int j) {
            lines.add(time, what, j, jobs.row[Jobs.SLOT][j], jobs.row[Jobs.COLUMN][j]);
        }

        boolean canCome(int size, int work, int user) {
            return size >= 1 && size <= told[P] && work >= 1 && work <= MOST_WORK
                && user >= 0 && user < Users.ALL && jobs.came + arrivals.ahead < Jobs.ALL;
        }

        int come(int size, int work, int user, int after) {
            int j = jobs.add(size, work, user, after, time);
            if (after == NONE || jobs.state(after) == Jobs.DONE) {
                jobs.toLine(j);
            }
            note(LOG_CAME, j);
            return j;
        }

        /** The spot for a width by FIT; NONE if it can't be. */
        int spotFor(int width) {
            if (!canStand(width)) {
                return NONE;
            }
            if (told[FIT] == 2) {
                slots.loadsInto(load);
            }
            int best = NONE;
            int bestRank = 0;
            for (int s = 0; s < slots.rows; s++) {
                int start = rankedStart(freeIn(s), width);
                int rank = start / Blocks.COLUMNS;
                if (start != NONE && (best == NONE || rank < bestRank)) {
                    best = Blocks.spot(s, start % Blocks.COLUMNS);
                    bestRank = rank;
                }
            }
            if (best != NONE || slots.rows >= told[MOST]) {
                return best;
            }
            int start = rankedStart(ups(), width);
            return start == NONE ? NONE : Blocks.spot(slots.rows, start % Blocks.COLUMNS);
        }

        /** Most of those that wait can't be placed: this tells it before anything is ranked. */
        private boolean canStand(int width) {
            int up = ups();
            for (int s = 0; s < slots.rows; s++) {
                if (Blocks.starts(up & ~slots.busy[s], width) != 0) {
                    return true;
                }
            }
            return slots.rows < told[MOST] && Blocks.starts(up, width) != 0;
        }

        /** Of the blocks in free columns the first of those that FIT ranks least, as rank * 32 + column. */
        private int rankedStart(int free, int width) {
            int starts = Blocks.starts(free, width);
            if (starts == 0 || told[FIT] == 0) {
                return Blocks.lowest(starts);
            }
            int best = NONE;
            for (int c = 0; c < told[P]; c++) {
                if ((starts >>> c & 1) == 1) {
                    int rank = told[FIT] == 1 ? roomOf(free, c, width) : loadRank(c, width);
                    int ranked = rank * Blocks.COLUMNS + c;
                    best = best == NONE ? ranked : Math.min(best, ranked);
                }
            }
            return best;
        }

        private int roomOf(int free, int column, int width) {
            int room = width;
            for (int wide = 2; wide <= Blocks.COLUMNS; wide *= 2) {
                int around = Blocks.bits(column / wide * wide, wide);
                if (wide > width && (around & ~free) == 0) {
                    room = wide;
                }
            }
            return room;
        }

        private int loadRank(int column, int width) {
            int greatest = 0;
            int together = 0;
            for (int c = column; c < column + width && c < load.length; c++) {
                greatest = Math.max(greatest, load[c]);
                together += load[c];
            }
            return greatest * LOADS + together;
        }

        /** THE QUEUE as it is now, in order; how many there are. */
        int lineUp() {
            if (told[ORDER] == 0) {
                System.arraycopy(jobs.line, 0, order, 0, jobs.waiting);
                return jobs.waiting;
            }
            users.rankAll();
            int found = 0;
            for (int rank = 0; rank < Users.ALL; rank++) {
                for (int i = 0; i < jobs.waiting; i++) {
                    if (users.rank[jobs.row[Jobs.USER][jobs.line[i]]] == rank) {
                        order[found] = jobs.line[i];
                        found++;
                    }
                }
            }
            return found;
        }

        /** Nothing that is placed changes a RATIO, so the order is made once. */
        void goOn() {
            int waiting = jobs.waiting > 0 ? lineUp() : 0;
            int first = 0;
            while (first < waiting && tryPlace(order[first], LOG_PLACED)) {
                first++;
            }
            int behind = first + 1;
            int end = Math.min(waiting, behind + told[BACKFILL]);
            int[] passed = jobs.row[Jobs.PASSED];
            while (behind < end && passed[order[first]] < told[PATIENCE]) {
                if (tryPlace(order[behind], LOG_BACKFILLED)) {
                    passed[order[first]]++;
                    tally[BACKFILLED]++;
                }
                behind++;
            }
        }

        private boolean tryPlace(int j, int what) {
            int spot = spotFor(jobs.row[Jobs.WIDTH][j]);
            if (spot == NONE) {
                return false;
            }
            placeAt(j, spot, what);
            return true;
        }

        void placeAt(int j, int spot, int what) {
            jobs.fromLine(j);
            jobs.row[Jobs.STATE][j] = Jobs.PLACED;
            if (jobs.row[Jobs.FIRST][j] == NONE) {
                jobs.row[Jobs.FIRST][j] = time;
            }
            settle(j, Blocks.slotOf(spot), Blocks.columnOf(spot));
            note(what, j);
        }

        /** Puts a job into a slot, which is a new one if it is the next behind all. */
        void settle(int j, int slot, int column) {
            if (slot == slots.rows) {
                slots.open();
            }
            if (slots.has(slot)) {
                jobs.row[Jobs.SLOT][j] = slot;
                jobs.row[Jobs.COLUMN][j] = column;
                slots.busy[slot] |= jobs.block(j);
            }
        }

        /** The slot stays for now: until all that go are out, the numbers of slots are as they were. */
        void takeOut(int j) {
            int slot = jobs.row[Jobs.SLOT][j];
            if (slots.has(slot)) {
                slots.busy[slot] &= ~jobs.block(j);
            }
            jobs.row[Jobs.SLOT][j] = NONE;
            jobs.row[Jobs.COLUMN][j] = NONE;
        }

        void dropEmpty() {
            for (int s = slots.rows - 1; s >= 0; s--) {
                if (slots.busy[s] == 0) {
                    dropSlot(s);
                }
            }
        }

        private void dropSlot(int slot) {
            slots.drop(slot);
            int[] slotOf = jobs.row[Jobs.SLOT];
            for (int j = 0; j < jobs.came; j++) {
                if (slotOf[j] > slot) {
                    slotOf[j]--;
                }
            }
        }

        int weightOf(int slot) {
            int weight = 0;
            for (int j = 0; j < jobs.came; j++) {
                if (jobs.row[Jobs.SLOT][j] == slot) {
                    weight += users.share[jobs.row[Jobs.USER][j]];
                }
            }
            return weight;
        }

        /** One quantum; how many jobs are done by it. */
        int runOne() {
            bringArrivals();
            goOn();
            crew.clear();
            int turn = slots.next();
            if (turn != NONE) {
                takeTurn(turn);
            }
            countColumns(turn);
            gone.add(turn, crew.own, crew.lent, Integer.bitCount(crew.cells), NONE);
            time++;
            int done = endJobs();
            wakeHeld();
            if (told[AUTO] == 1) {
                unifyAll();
            }
            goOn();
            return done;
        }

        private void bringArrivals() {
            for (int i = 0; i < arrivals.ahead; i++) {
                if (arrivals.isDue(i, time) && jobs.came < Jobs.ALL) {
                    come(arrivals.size(i), arrivals.work(i), arrivals.who(i), NONE);
                }
            }
            arrivals.dropDue(time);
        }

        private void takeTurn(int slot) {
            slots.pass[slot] += TURN / Math.max(1, weightOf(slot));
            slots.turns[slot]++;
            crew.choose(jobs, users, slot, told[ALTERNATES] == 1);
            for (int i = 0; i < crew.size(); i++) {
                run(crew.runner[i], i < crew.own ? Jobs.RAN : Jobs.EXTRA);
            }
            tally[LENT] += crew.lent;
            restStopped();
        }

        private void run(int j, int as) {
            jobs.row[Jobs.LEFT][j]--;
            jobs.row[as][j]++;
            users.used[jobs.row[Jobs.USER][j]] += jobs.row[Jobs.SIZE][j];
            int runs = jobs.row[Jobs.RAN][j] + jobs.row[Jobs.EXTRA][j];
            if (told[SAVE] > 0 && runs % told[SAVE] == 0) {
                jobs.row[Jobs.KEPT][j] = jobs.row[Jobs.LEFT][j];
            }
        }

        /** None that ran is stopped, so this takes only from those that were ahead of the turn. */
        private void restStopped() {
            for (int j = 0; j < jobs.came; j++) {
                if (jobs.isPlaced(j) && jobs.row[Jobs.STOPPED][j] > 0) {
                    jobs.row[Jobs.STOPPED][j]--;
                }
            }
        }

        private void countColumns(int turn) {
            int busy = slots.has(turn) ? slots.busy[turn] : 0;
            int cells = slots.has(turn) ? jobs.cellsIn(turn) : 0;
            int idle = ups() & ~crew.cells;
            tally[USED] += Integer.bitCount(crew.cells);
            tally[STILL] += Integer.bitCount(idle & cells);
            tally[INSIDE] += Integer.bitCount(idle & busy & ~cells);
            tally[OPEN] += Integer.bitCount(idle & ~busy);
            tally[DOWN] += Integer.bitCount(downs);
        }

        private int endJobs() {
            int done = 0;
            for (int j = 0; j < jobs.came; j++) {
                if (jobs.isPlaced(j) && jobs.row[Jobs.LEFT][j] == 0) {
                    note(LOG_DONE, j);
                    takeOut(j);
                    jobs.row[Jobs.STATE][j] = Jobs.DONE;
                    jobs.row[Jobs.END][j] = time;
                    done++;
                }
            }
            dropEmpty();
            return done;
        }

        private void wakeHeld() {
            for (int j = 0; j < jobs.came; j++) {
                if (jobs.state(j) == Jobs.HELD && isOver(jobs.row[Jobs.AFTER][j])) {
                    jobs.toLine(j);
                }
            }
        }

        private boolean isOver(int j) {
            return jobs.has(j) && jobs.state(j) == Jobs.DONE;
        }

        /** How many slots go by it. */
        int unifyAll() {
            int gone = 0;
            while (gone < Slots.ALL && unifyFirst()) {
                gone++;
            }
            tally[UNIFIED] += gone;
            return gone;
        }

        private boolean unifyFirst() {
            for (int first = 0; first < slots.rows; first++) {
                for (int behind = first + 1; behind < slots.rows; behind++) {
                    if ((slots.busy[first] & slots.busy[behind]) == 0) {
                        unite(first, behind);
                        return true;
                    }
                }
            }
            return false;
        }

        private void unite(int first, int behind) {
            lines.add(time, LOG_UNIFIED, NONE, first, behind);
            slots.unite(first, behind);
            int[] slotOf = jobs.row[Jobs.SLOT];
            for (int j = 0; j < jobs.came; j++) {
                if (slotOf[j] == behind) {
                    slotOf[j] = first;
                }
            }
            dropSlot(behind);
        }

        /** Blocks laid by falling width need as many slots as the greatest load, so there is always one. */
        void repackAll() {
            long start = slots.leastPass();
            int placed = sortForRepack();
            slots.rows = 0;
            for (int i = 0; i < placed; i++) {
                int j = key[i] % Jobs.NUMBERS;
                settle(j, slots.firstClear(jobs.block(j)), jobs.row[Jobs.COLUMN][j]);
            }
            slots.passAllAt(start);
        }

        private int sortForRepack() {
            int found = 0;
            for (int j = 0; j < jobs.came; j++) {
                if (jobs.isPlaced(j)) {
                    int narrow = Blocks.COLUMNS - jobs.row[Jobs.WIDTH][j];
                    int spot = Blocks.spot(jobs.row[Jobs.SLOT][j], jobs.row[Jobs.COLUMN][j]);
                    key[found] = (narrow * Slots.ALL * Blocks.COLUMNS + spot) * Jobs.NUMBERS + j;
                    found++;
                }
            }
            sortKeys(key, found);
            return found;
        }

        static void sortKeys(int[] keys, int n) {
            for (int i = 1; i < n && i < keys.length; i++) {
                int sorted = keys[i];
                int at = i;
                while (at > 0 && keys[at - 1] > sorted) {
                    keys[at] = keys[at - 1];
                    at--;
                }
                keys[at] = sorted;
            }
        }

        /** Goes down to those held and back up by AFTER, so that no call stands open for each level. */
        int killWithHeld(int job) {
            int killed = 1;
            int at = job;
            int from = job + 1;
            end(job);
            dropEmpty();
            for (int step = 0; step < 2 * Jobs.ALL; step++) {
                int next = nextHeldBy(at, from);
                if (next != NONE) {
                    end(next);
                    killed++;
                    at = next;
                    from = next + 1;
                } else if (at == job) {
                    break;
                } else {
                    from = at + 1;
                    at = jobs.row[Jobs.AFTER][at];
                }
            }
            return killed;
        }

        private int nextHeldBy(int j, int from) {
            for (int k = from; k < jobs.came; k++) {
                if (jobs.state(k) == Jobs.HELD && jobs.row[Jobs.AFTER][k] == j) {
                    return k;
                }
            }
            return NONE;
        }

        private void end(int j) {
            takeOut(j);
            jobs.fromLine(j);
            jobs.row[Jobs.STATE][j] = Jobs.KILLED;
            jobs.row[Jobs.END][j] = time;
            note(LOG_KILLED, j);
        }

        void fail(int column) {
            downs |= 1 << column;
            putBack(NONE, 1 << column);
            dropEmpty();
        }

        /** Puts back all whose blocks have one of the columns, in one slot or (NONE) in all. */
        void putBack(int slot, int columns) {
            for (int j = 0; j < jobs.came; j++) {
                if (stands(j, slot) && (jobs.block(j) & columns) != 0) {
                    note(LOG_BACK, j);
                    takeOut(j);
                    tally[WASTED] += jobs.lossOf(j);
                    tally[RESTARTED]++;
                    jobs.row[Jobs.LEFT][j] = jobs.row[Jobs.KEPT][j];
                    jobs.row[Jobs.STOPPED][j] = 0;
                    jobs.row[Jobs.RESTARTS][j]++;
                    jobs.toLine(j);
                }
            }
        }

        boolean stands(int j, int slot) {
            return jobs.isPlaced(j) && (slot == NONE || jobs.row[Jobs.SLOT][j] == slot);
        }
    }

    /** What moving, laying anew and urging would bring, and doing it. */
    private static final class Plans {
        private static final int MOST_FOR_TWO = 8;
        private final Board board;
        private final Jobs jobs;
        private final Slots slots;
        private final int[] load = new int[Blocks.COLUMNS];
        private final int[] laid = new int[Jobs.ALL];
        private final int[] key = new int[Jobs.ALL];
        /** The greatest load by what bestColumn or layAnew found last. */
        private int peak;

        Plans(Board board) {
            this.board = board;
            this.jobs = board.jobs;
            this.slots = board.slots;
        }

        private int stopOf(int j) {
            return (board.told[Board.STOP] * jobs.row[Jobs.SIZE][j] + 3) / 4;
        }

        private int costOf(int j) {
            return stopOf(j) * jobs.row[Jobs.SIZE][j];
        }

        private int gain() {
            return (slots.peak() - peak) * board.p() * jobs.leastLeft();
        }

        private boolean isUp(int column, int width) {
            return (Blocks.bits(column, width) & board.downs) == 0;
        }

        private void addLoad(int column, int width, int more) {
            for (int c = column; c < column + width && c < load.length; c++) {
                if (c >= 0) {
                    load[c] += more;
                }
            }
        }

        private int greatestLoad(int column, int width) {
            int greatest = 0;
            for (int c = column; c < column + width && c < load.length; c++) {
                if (c >= 0) {
                    greatest = Math.max(greatest, load[c]);
                }
            }
            return greatest;
        }

        private void stop(int j) {
            jobs.row[Jobs.STOPPED][j] = stopOf(j);
            jobs.row[Jobs.MOVES][j]++;
            board.tally[Board.MOVED]++;
        }

        boolean moveTo(int j, int column) {
            int width = jobs.row[Jobs.WIDTH][j];
            if (!board.hasColumn(column) || column % Math.max(1, width) != 0
                || column == jobs.row[Jobs.COLUMN][j] || !isUp(column, width)
                || !hasRoom(j, Blocks.bits(column, width))) {
                return false;
            }
            board.takeOut(j);
            board.dropEmpty();
            board.settle(j, slots.firstClear(Blocks.bits(column, width)), column);
            stop(j);
            board.note(Board.LOG_MOVED, j);
            return true;
        }

        /** Whether a slot has the columns clear, or a new one can be, once the job is out. */
        private boolean hasRoom(int j, int columns) {
            int stay = 0;
            for (int s = 0; s < slots.rows; s++) {
                int busy = slots.busy[s];
                if (s == jobs.row[Jobs.SLOT][j]) {
                    busy &= ~jobs.block(j);
                }
                if (busy != 0) {
                    stay++;
                    if ((busy & columns) == 0) {
                        return true;
                    }
                }
            }
            return stay < board.told[Board.MOST];
        }

        /** BEST for a job; NONE without one. */
        private int bestColumn(int j) {
            int own = jobs.row[Jobs.COLUMN][j];
            int width = Math.max(1, jobs.row[Jobs.WIDTH][j]);
            slots.loadsInto(load);
            addLoad(own, width, -1);
            int rest = greatestLoad(0, board.p());
            int best = NONE;
            for (int c = 0; c < board.p(); c += width) {
                if (c != own && isUp(c, width)) {
                    int would = Math.max(rest, greatestLoad(c, width) + 1);
                    if (best == NONE || would < peak) {
                        best = c;
                        peak = would;
                    }
                }
            }
            return best;
        }

        int weighed(int j, int what) {
            int best = bestColumn(j);
            if (best == NONE) {
                return NOT_WEIGHED;
            }
            switch (what) {
                case 0: return best;
                case 1: return slots.peak() - peak;
                case 2: return gain();
                case 3: return costOf(j);
                case 4: return gain() > costOf(j) ? 1 : 0;
                default: return NOT_WEIGHED;
            }
        }

        boolean migrateToBest(int j) {
            int best = bestColumn(j);
            if (best == NONE || gain() <= costOf(j)) {
                return false;
            }
            jobs.row[Jobs.COLUMN][j] = best;
            stop(j);
            board.repackAll();
            board.note(Board.LOG_MOVED, j);
            return true;
        }

        /** Finds new columns for all that are placed, and the greatest load by them. */
        private void layAnew() {
            int placed = sortByWidth();
            for (int c = 0; c < load.length; c++) {
                load[c] = 0;
            }
            for (int i = 0; i < placed; i++) {
                int j = key[i] % Jobs.NUMBERS;
                laid[j] = layColumn(j);
                addLoad(laid[j], jobs.row[Jobs.WIDTH][j], 1);
            }
            peak = greatestLoad(0, board.p());
        }

        private int sortByWidth() {
            int found = 0;
            for (int j = 0; j < jobs.came; j++) {
                if (jobs.isPlaced(j)) {
                    key[found] = (Blocks.COLUMNS - jobs.row[Jobs.WIDTH][j]) * Jobs.NUMBERS + j;
                    found++;
                }
            }
            Board.sortKeys(key, found);
            return found;
        }

        /** Starts from the column that the job has, so that it stays where none is better. */
        private int layColumn(int j) {
            int width = Math.max(1, jobs.row[Jobs.WIDTH][j]);
            int best = jobs.row[Jobs.COLUMN][j];
            int least = greatestLoad(best, width);
            for (int c = 0; c < board.p(); c += width) {
                if (isUp(c, width) && greatestLoad(c, width) < least) {
                    best = c;
                    least = greatestLoad(c, width);
                }
            }
            return best;
        }

        private boolean isLaidElsewhere(int j) {
            return jobs.isPlaced(j) && laid[j] != jobs.row[Jobs.COLUMN][j];
        }

        private int laidElsewhere() {
            int found = 0;
            for (int j = 0; j < jobs.came; j++) {
                if (isLaidElsewhere(j)) {
                    found++;
                }
            }
            return found;
        }

        private int layingCost() {
            int cost = 0;
            for (int j = 0; j < jobs.came; j++) {
                if (isLaidElsewhere(j)) {
                    cost += costOf(j);
                }
            }
            return cost;
        }

        int packed(int what) {
            layAnew();
            switch (what) {
                case 0: return peak;
                case 1: return laidElsewhere();
                case 2: return gain();
                case 3: return layingCost();
                default: return NOT_WEIGHED;
            }
        }

        boolean relayAll() {
            layAnew();
            if (gain() <= layingCost()) {
                return false;
            }
            long movers = 0;
            for (int j = 0; j < jobs.came; j++) {
                if (isLaidElsewhere(j)) {
                    jobs.row[Jobs.COLUMN][j] = laid[j];
                    stop(j);
                    movers |= 1L << j;
                }
            }
            board.repackAll();
            for (int j = 0; j < jobs.came; j++) {
                if ((movers >>> j & 1L) == 1L) {
                    board.note(Board.LOG_MOVED, j);
                }
            }
            return true;
        }

        /** The spot with the least loss for a job; NONE if there is no slot or no block that is up. */
        private int urgeSpot(int j) {
            int width = Math.max(1, jobs.row[Jobs.WIDTH][j]);
            int best = NONE;
            int bestLoss = 0;
            int bestHit = 0;
            for (int s = 0; s < slots.rows; s++) {
                for (int c = 0; c < board.p(); c += width) {
                    if (isUp(c, width)) {
                        int columns = Blocks.bits(c, width);
                        int loss = lossAt(s, columns);
                        int hit = hitAt(s, columns);
                        if (best == NONE || loss < bestLoss || loss == bestLoss && hit < bestHit) {
                            best = Blocks.spot(s, c);
                            bestLoss = loss;
                            bestHit = hit;
                        }
                    }
                }
            }
            return best;
        }

        private int lossAt(int slot, int columns) {
            int loss = 0;
            for (int j = 0; j < jobs.came; j++) {
                if (board.stands(j, slot) && (jobs.block(j) & columns) != 0) {
                    loss += jobs.lossOf(j);
                }
            }
            return loss;
        }

        private int hitAt(int slot, int columns) {
            int hit = 0;
            for (int j = 0; j < jobs.came; j++) {
                if (board.stands(j, slot) && (jobs.block(j) & columns) != 0) {
                    hit++;
                }
            }
            return hit;
        }

        int urgedWhat(int j, int what) {
            int spot = urgeSpot(j);
            if (spot == NONE) {
                return NONE;
            }
            int slot = Blocks.slotOf(spot);
            int column = Blocks.columnOf(spot);
            int columns = Blocks.bits(column, jobs.row[Jobs.WIDTH][j]);
            switch (what) {
                case 0: return slot;
                case 1: return column;
                case 2: return hitAt(slot, columns);
                case 3: return lossAt(slot, columns);
                default: return NONE;
            }
        }

        boolean urgeIn(int j) {
            int spot = urgeSpot(j);
            if (spot == NONE) {
                return false;
            }
            int columns = Blocks.bits(Blocks.columnOf(spot), jobs.row[Jobs.WIDTH][j]);
            board.putBack(Blocks.slotOf(spot), columns);
            board.placeAt(j, spot, Board.LOG_PLACED);
            return true;
        }

        /** Of up to two jobs the second's best is found in one look, so only the first's places are tried. */
        int thinned(int k) {
            if (k < 0 || k > 2 || k == 2 && jobs.inState(Jobs.PLACED) > MOST_FOR_TWO) {
                return NONE;
            }
            int least = slots.peak();
            if (k == 0) {
                return least;
            }
            slots.loadsInto(load);
            for (int j = 0; j < jobs.came; j++) {
                if (jobs.isPlaced(j)) {
                    least = Math.min(least, k == 1 ? leastPeakBy(j) : leastPeakByTwo(j));
                }
            }
            return least;
        }

        private int leastPeakBy(int j) {
            int own = jobs.row[Jobs.COLUMN][j];
            int width = Math.max(1, jobs.row[Jobs.WIDTH][j]);
            addLoad(own, width, -1);
            int lowest = greatestLoad(own, width);
            for (int c = 0; c < board.p(); c += width) {
                if (isUp(c, width)) {
                    lowest = Math.min(lowest, greatestLoad(c, width));
                }
            }
            int least = Math.max(greatestLoad(0, board.p()), lowest + 1);
            addLoad(own, width, 1);
            return least;
        }

        private int leastPeakByTwo(int j) {
            int own = jobs.row[Jobs.COLUMN][j];
            int width = Math.max(1, jobs.row[Jobs.WIDTH][j]);
            int least = leastPeakBy(j);
            addLoad(own, width, -1);
            for (int c = 0; c < board.p(); c += width) {
                if (isUp(c, width)) {
                    addLoad(c, width, 1);
                    least = Math.min(least, leastPeakByLater(j));
                    addLoad(c, width, -1);
                }
            }
            addLoad(own, width, 1);
            return least;
        }

        private int leastPeakByLater(int j) {
            int least = greatestLoad(0, board.p());
            for (int k = j + 1; k < jobs.came; k++) {
                if (jobs.isPlaced(k)) {
                    least = Math.min(least, leastPeakBy(k));
                }
            }
            return least;
        }
    }
}
