import java.util.Arrays;
import java.util.function.Consumer;
import java.util.function.ToLongFunction;

/** What the tests share: answers that are due, objects to ask, and all that can be seen of an object. */
public abstract class Checks {
    protected static final int NONE = -1, BAD = -2, STATE = -3, FULL = -4;
    protected static final long NO = -4611686018427387904L;
    protected static final int MIN = Integer.MIN_VALUE, MAX = Integer.MAX_VALUE;
    private static int wrong = 0;
    private static String promise = "";

    protected interface Run {
        void go();
    }

    protected static void check(String name, Run run) {
        promise = name;
        run.go();
    }

    protected static void endOfTest() {
        System.out.println(wrong == 0 ? "all answers are as due" : wrong + " answers are not as due");
        if (wrong != 0) System.exit(1);
    }

    private static void tell(String what) {
        wrong++;
        StringBuilder lines = new StringBuilder();
        for (StackTraceElement at : Thread.currentThread().getStackTrace()) {
            if (at.getClassName().endsWith("Test")) lines.append(' ').append(at.getLineNumber());
        }
        System.out.println(promise + ", lines" + lines + ": " + what);
    }

    protected static void due(long want, long got) {
        if (got != want) tell("answered " + got + ", due is " + want);
    }

    /** Two TOWERS of 40 and 30, and a SPAN over each told PLOT, 100 LONG. */
    protected static WayLeaves withSpans(int... plots) {
        WayLeaves x = new WayLeaves();
        x.tower(0, 40);
        x.tower(9, 30);
        for (int plot : plots) x.span(0, 1, plot, 100);
        return x;
    }

    protected static int feed(WayLeaves x, String s) {
        int size = x.count(8);
        for (int i = 0; i < s.length(); i += 8) {
            int n = Math.min(8, s.length() - i);
            long bytes = 0;
            for (int k = n - 1; k >= 0; k--) bytes = bytes << 8 | s.charAt(i + k);
            size = x.feed(n, bytes);
        }
        return size;
    }

    protected static int text(WayLeaves x, String s) {
        feed(x, s);
        return x.text();
    }

    /** What a sum comes to over SPAN 0, or the refusal of its TEXT. */
    protected static long sum(WayLeaves x, String e) {
        int text = text(x, "pays 0;sum " + e + ";");
        if (text < 0) return text;
        x.force(text);
        return x.says(0, 1);
    }

    protected static long sum(String e) {
        return sum(withSpans(8), e);
    }

    /** The place of the FAULT; -101: there is none. */
    protected static int fault(String s) {
        return -100 - text(new WayLeaves(), s);
    }

    // ---- an object with something of everything, and all that can be seen of it

    protected static final int NOW = 400;

    /** In DAY 400, by some 90 calls. SPANS 0 .. 3, LEAVES 0 .. 7, TEXTS 0 .. 2, CLAIMS 0 .. 3, SHEETS 0 .. 2. */
    protected static WayLeaves world() {
        WayLeaves x = new WayLeaves();
        plotsOfWorld(x);
        spansAndLeavesOfWorld(x);
        restOfWorld(x);
        return x;
    }

    private static void plotsOfWorld(WayLeaves x) {
        x.sell(8, 1, 0);
        x.sell(9, 2, NOW + 1);
        x.sell(10, 3, NOW - 1);
        x.heir(0, 3, 1);
        x.heir(0, 2, 2);
        x.heir(1, 5, 7);
        x.set(8, 0, 4);
        x.set(9, 1, 500);
        x.set(18, 2, 33);
        x.set(17, 3, 1);
        x.trees(8, 5, 3);
        x.trees(9, 2, 1);
        x.hold(1, 50);
        x.hold(2, 7);
        x.look(3, 1000, 10);
        x.look(3, 1150, 10);
        x.look(8, 500, 50);
    }

    /** LEAVES 3 .. 6 are ORDERS: long begun, APPEALED, UNDONE too, and still to begin. */
    private static void spansAndLeavesOfWorld(WayLeaves x) {
        x.tower(0, 40);
        x.tower(9, 30);
        x.tower(10, 90);
        x.span(0, 1, 8, 400);
        x.span(1, 2, 9, 100);
        x.span(2, 0, 10, 250);
        x.span(0, 2, 8, 50);
        x.heat(0, 50);
        x.heat(2, -20);
        x.asking(0, 60);
        x.asking(1, 5);
        x.leave(0, 0, 3000, 0, -1);
        x.leave(1, 1, 0, 0, -1);
        x.leave(3, 1, 5000, 10, 1);
        x.leave(4, 3, 4500, 0, -1);
        x.pass(NOW - 20);
        x.leave(4, 2, 900, NOW - 20, -1);
        x.leave(4, 0, 1500, NOW - 10, 0);
        x.leave(4, 2, 1200, NOW + 5, 4);
        x.leave(5, 2, 600, NOW - 5, 4);
        x.pass(20);
        x.appeal(4);
        x.appeal(5);
        x.undo(5, NOW + 30);
        x.renew(0);
        for (int n = 0; n < 5; n++) x.renew(1);
    }

    private static void restOfWorld(WayLeaves x) {
        text(x, "pays 3;sum 7*worth+31;");
        text(x, "pays near;sum span;");
        x.force(1);
        x.claim(1, 0, 70);
        x.claim(1, 0, 90);
        x.claim(4, 2, 80);
        x.claim(0, 3, 99999);
        x.sheet(0, 0, 4);
        x.sheet(1, 1, 3);
        x.sheet(2, 2, 2);
        for (int i = 0; i < 4; i++) x.cell(0, i, 11 + i);
        for (int i = 0; i < 3; i++) x.cell(1, i, 211 + i);
        for (int i = 0; i < 2; i++) x.cell(2, i, 911 + i);
        feed(x, "pays 5;");
    }

    private static final int[] PLOTS_SEEN = {0, 3, 8, 9, 10, 47};
    private static final int[] DAYS_SEEN = {0, NOW - 1, NOW, NOW + 1, NOW + 30, 3000, 9999};

    /** Writes down answers, one behind the other. */
    private static final class Seen {
        final long[] answers = new long[400];
        int n = 0;

        void add(long answer) {
            answers[n++] = answer;
        }
    }

    private static Seen countsAndPlots(WayLeaves x) {
        Seen seen = new Seen();
        for (int what = 0; what < 12; what++) seen.add(x.count(what));
        for (int plot : PLOTS_SEEN) {
            for (int day : DAYS_SEEN) seen.add(x.owner(plot, day));
            seen.add(x.high(plot));
            seen.add(x.bounds(plot, 0));
            seen.add(x.bounds(plot, 1));
        }
        for (int plot = 0; plot < 48; plot++) seen.add(x.way(plot, plot, -1));
        for (int owner = 0; owner < 10; owner++) {
            for (int day = NOW; day <= NOW + 1; day++) seen.add(x.yearly(owner, day));
            seen.add(x.due(owner));
            seen.add(x.couldAsk(owner, 0, 18));
        }
        seen.add(x.doubled());
        return seen;
    }

    private static Seen spansAndLeaves(WayLeaves x) {
        Seen seen = new Seen();
        int spans = Math.min(5, x.count(3));
        for (int span = 0; span < spans; span++) {
            for (int what = 0; what < 8; what++) seen.add(x.spanTold(span, what));
            for (int day : DAYS_SEEN) seen.add(x.has(span, day));
            for (int part = 0; part < 2; part++) seen.add(x.says(span, part));
        }
        int leaves = Math.min(10, x.count(4));
        for (int leave = 0; leave < leaves; leave++) {
            for (int what = 0; what < 9; what++) seen.add(x.leaveTold(leave, what));
        }
        for (int i = -1; i < 4; i++) seen.add(x.toAsk(15, i));
        return seen;
    }

    /** What only further changes show. */
    private static Seen whatChangesTell(WayLeaves x) {
        Seen seen = new Seen();
        int leaves = Math.min(10, x.count(4));
        for (int leave = 0; leave < leaves; leave++) {
            seen.add(x.renew(leave));
            seen.add(x.appeal(leave));
            seen.add(x.undo(leave, 9999));
        }
        for (int plot : PLOTS_SEEN) {
            for (int what = 0; what < 4; what++) seen.add(x.set(plot, what, 1));
        }
        for (int of = 0; of < 10; of++) {
            for (int owner = 0; owner < 10; owner++) seen.add(x.heir(of, owner, 0));
            seen.add(x.hold(of, 0));
        }
        seen.add(x.pass(2000));
        for (int plot : PLOTS_SEEN) seen.add(x.high(plot));
        return seen;
    }

    private static Seen textsAndSheets(WayLeaves x) {
        Seen seen = new Seen();
        seen.add(x.count(8));
        seen.add(text(x, "sum 6*day;"));
        for (int text = 0; text < 7; text++) {
            seen.add(x.force(text));
            for (int part = 0; part < 2; part++) seen.add(x.says(0, part));
        }
        for (int sheet = 0; sheet < 4; sheet++) {
            for (int sort = 0; sort < 3; sort++) seen.add(x.costs(0, sheet, sort, 0, 40));
            for (int plot = 0; plot < 5; plot++) seen.add(x.set(plot, 2, 10));
        }
        return seen;
    }

    private static void alike(Seen want, Seen got) {
        if (!Arrays.equals(want.answers, got.answers)) tell("changed what other calls answer");
    }

    private static WayLeaves made(Consumer<WayLeaves> more) {
        WayLeaves x = world();
        more.accept(x);
        return x;
    }

    private static WayLeaves madeAndRefused(long want, Consumer<WayLeaves> more, ToLongFunction<WayLeaves> call) {
        WayLeaves x = made(more);
        due(want, call.applyAsLong(x));
        return x;
    }

    /** A refusal on the world with some calls more: all that can be seen behind it is as without it. */
    protected static void refused(long want, Consumer<WayLeaves> more, ToLongFunction<WayLeaves> call) {
        alike(countsAndPlots(made(more)), countsAndPlots(madeAndRefused(want, more, call)));
        alike(spansAndLeaves(made(more)), spansAndLeaves(madeAndRefused(want, more, call)));
        alike(whatChangesTell(made(more)), whatChangesTell(madeAndRefused(want, more, call)));
        alike(textsAndSheets(made(more)), textsAndSheets(madeAndRefused(want, more, call)));
    }

    protected static void refused(long want, ToLongFunction<WayLeaves> call) {
        refused(want, x -> { }, call);
    }

    protected interface Call {
        long on(WayLeaves x, int[] arguments);
    }

    /**
     * A call on the world whose arguments are good as they are told: each with its least and its most number is still
     * not refused, and with the one below, the one above, and those far off it is.
     */
    protected static void limits(long want, Call call, int[] good, int... leastAndMost) {
        for (int i = 0; i < good.length; i++) {
            int least = leastAndMost[2 * i];
            int most = leastAndMost[2 * i + 1];
            for (int v : new int[] {least, most}) {
                if (call.on(world(), with(good, i, v)) == want) tell("refused argument " + i + " " + v);
            }
            for (int v : new int[] {least - 1, most + 1, MIN, MAX}) {
                int[] arguments = with(good, i, v);
                refused(want, x -> call.on(x, arguments));
            }
        }
    }

    private static int[] with(int[] arguments, int i, int v) {
        int[] all = arguments.clone();
        all[i] = v;
        return all;
    }

    protected static void passTo(WayLeaves x, int day) {
        for (int n = 0; n < 5 && x.count(0) < day; n++) x.pass(Math.min(2000, day - x.count(0)));
    }

    /** Calls till there is no more room. */
    protected static final class Fill {
        private static final int MOST = 40;

        static void sales(WayLeaves x) {
            for (int n = 0; n < MOST && x.sell(47, 8, NOW + 1) > 0; n++) continue;
        }

        static void towers(WayLeaves x) {
            for (int n = 0; n < MOST && x.tower(3, 20) >= 0; n++) continue;
        }

        static void spans(WayLeaves x) {
            for (int n = 0; n < MOST && x.span(0, 1, 9, 100) >= 0; n++) continue;
        }

        static void leaves(WayLeaves x) {
            for (int n = 0; n < MOST && x.leave(0, 0, 150, NOW, -1) >= 0; n++) continue;
        }

        static void claims(WayLeaves x) {
            for (int n = 0; n < MOST && x.claim(7, 1, 10) >= 0; n++) continue;
        }

        static void looks(WayLeaves x) {
            for (int n = 0; n < MOST && x.look(47, 20, 5) >= 0; n++) continue;
        }

        /** THE TAPE is fed behind what it has till it is full, and ends with a whole TEXT. */
        static void tape(WayLeaves x) {
            feed(x, "sum 8;" + " ".repeat(160 - 6 - x.count(8)));
        }

        /** What THE TAPE has goes as a FAULT; the TEXT that found no room stays on it. */
        static void texts(WayLeaves x) {
            x.text();
            for (int n = 0; n < MOST && text(x, "pays 1;sum 8;") > 0; n++) continue;
            x.text();
        }
    }
}
