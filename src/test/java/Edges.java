import java.util.ArrayList;
import java.util.LinkedHashSet;
import java.util.List;
import java.util.Set;
import java.util.function.IntUnaryOperator;

/**
 * What the tests of edges share. Each test names the sentence of the document that it is for; an answer that is
 * not due is printed with it. No object gets more than the 512 calls that the document promises anything for.
 */
final class Edges {
    static final int NONE = -1;
    static final int LOWEST = Integer.MIN_VALUE, HIGHEST = Integer.MAX_VALUE;
    static final int NO_WEIGHT = -1000000000, NO_SUCH = -100000000;
    static final int P = 0, MOST = 1, FIT = 2, ORDER = 3, BACKFILL = 4, PATIENCE = 5, STOP = 6, SAVE = 7,
        ALTERNATES = 8, AUTO = 9;
    static final int STATE = 4, LEFT = 5, KEPT = 6, SLOT = 7, COLUMN = 8, WIDTH = 9, RAN = 10, EXTRA = 11,
        STOPPED = 12, CAME = 13, FIRST = 14, END = 15, RESTARTS = 16, PASSED = 17, MOVES = 18;
    static final int HELD = 0, WAITING = 1, PLACED = 2, DONE = 3, KILLED = 4;
    static final int[] ALL_P = {4, 8, 16, 32};

    private static final Set<String> sentences = new LinkedHashSet<>();
    private static final Set<String> broken = new LinkedHashSet<>();
    private static String sentence = "";
    private static int looked;

    private Edges() {
    }

    /** Names the sentence that the answers from here on are for. */
    static void sentence(String text) {
        if (!sentences.add(text)) fail("this sentence is named twice: " + text);
        sentence = text;
    }

    static Set<String> sentences() {
        return sentences;
    }

    static Set<String> broken() {
        return broken;
    }

    /** The test of a sentence threw: it does not hold. */
    static void threw() {
        broken.add(sentence);
    }

    static void end(String name) {
        System.out.println(name + ": " + sentences.size() + " sentences, " + looked + " answers looked at, "
            + broken.size() + " sentences broken");
        if (!broken.isEmpty()) System.exit(1);
    }

    private static void fail(String text) {
        broken.add(sentence);
        System.out.println("\"" + sentence + "\": " + text);
    }

    static void due(String what, int got, int want) {
        looked++;
        if (got != want) fail(what + " answered " + got + ", due is " + want);
    }

    static void yes(String what, boolean got) {
        due(what, got ? 1 : 0, 1);
    }

    static void no(String what, boolean got) {
        due(what, got ? 1 : 0, 0);
    }

    /** A new object with p columns whose slots are not unified by themselves. */
    static GangMatrix with(int p) {
        GangMatrix x = new GangMatrix();
        yes("set(0, " + p + ")", x.set(P, p));
        yes("set(9, 0)", x.set(AUTO, 0));
        return x;
    }

    static void job(GangMatrix x, int number, int size, int work, int user) {
        due("job " + number, x.job(size, work, user, NONE), number);
    }

    static void held(GangMatrix x, int number, int size, int work, int after) {
        due("job " + number + " behind " + after, x.job(size, work, 0, after), number);
    }

    static void at(GangMatrix x, int job, int slot, int column) {
        due("state of " + job, x.of(job, STATE), PLACED);
        due("SLOT of " + job, x.of(job, SLOT), slot);
        due("COLUMN of " + job, x.of(job, COLUMN), column);
    }

    static void state(GangMatrix x, int job, int state) {
        due("state of " + job, x.of(job, STATE), state);
    }

    static void line(GangMatrix x, int i, int time, int what, int job, int slot, int column) {
        int[] want = {time, what, job, slot, column};
        for (int k = 0; k < want.length; k++) due("log(" + i + ", " + k + ")", x.log(i, k), want[k]);
    }

    static void went(GangMatrix x, int i, int slot, int own, int lent, int used) {
        int[] want = {slot, own, lent, used};
        for (int k = 0; k < want.length; k++) due("went(" + i + ", " + k + ")", x.went(i, k), want[k]);
    }

    static void counted(GangMatrix x, int... want) {
        for (int k = 0; k < want.length; k++) due("count(" + k + ")", x.count(k), want[k]);
    }

    static void queue(GangMatrix x, int... want) {
        for (int k = 0; k < want.length; k++) due("queue(" + k + ")", x.queue(k), want[k]);
        due("queue(" + want.length + ")", x.queue(want.length), NONE);
    }

    /** What is asked with one below the least, one above the most, and the ends of int, is none. */
    static void only(String what, IntUnaryOperator ask, int least, int most, int none) {
        for (int v : new int[] {least - 1, most + 1, LOWEST, HIGHEST}) due(what + " " + v, ask.applyAsInt(v), none);
        for (int v : new int[] {least, most}) {
            due(what + " " + v + " is one", ask.applyAsInt(v) == none ? 0 : 1, 1);
        }
    }

    /** All that can be asked, so long as few jobs came: some 300 calls. */
    static List<Integer> answers(GangMatrix x) {
        List<Integer> all = new ArrayList<>();
        for (int k = 0; k <= 22; k++) all.add(x.look(k));
        for (int k = 0; k <= 10; k++) all.add(x.count(k));
        for (int u = 0; u < 6; u++) for (int k = 0; k < 4; k++) all.add(x.user(u, k));
        for (int j = 0; j < all.get(11); j++) for (int k = 0; k < 19; k++) all.add(x.of(j, k));
        for (int s = 0; s < all.get(13); s++) for (int k = 1; k < 4; k++) all.add(x.slot(s, k));
        for (int i = 0; i < all.get(14); i++) all.add(x.queue(i));
        for (int i = 0; i < Math.min(12, all.get(22)); i++) for (int k = 0; k < 5; k++) all.add(x.log(i, k));
        for (int k = 0; k < 4; k++) all.add(x.went(0, k));
        all.add(x.where(1, 1));
        return all;
    }

    /** One of two objects made alike had calls that are refused, or only ask: nothing tells them apart. */
    static void same(String what, GangMatrix asked, GangMatrix left) {
        looked++;
        List<Integer> a = answers(asked), b = answers(left);
        if (!a.equals(b)) fail(what + " changed something: " + a + " instead of " + b);
    }

    /**
     * Slot 0: job 0 in columns 0 to 3, job 2 in column 4. Jobs 1 (which can't be), 3 and 4 wait, and whenever it
     * goes on, one of them is placed by BACKFILL: so each time that it goes on can be seen.
     */
    static GangMatrix restless() {
        GangMatrix x = with(8);
        x.set(MOST, 1);
        job(x, 0, 4, 9, 0);
        job(x, 1, 8, 9, 0);
        for (int j = 2; j <= 4; j++) job(x, j, 1, 9, 0);
        yes("one may pass by at a time", x.set(BACKFILL, 1));
        at(x, 2, 0, 4);
        queue(x, 1, 3, 4);
        return x;
    }
}
