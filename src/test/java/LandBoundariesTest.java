/** Each sentence that names a boundary case of DAYS, plots, towers and spans, leaves (promises 1 to 19). */
public final class LandBoundariesTest extends Checks {
    private static final int[] LASTS = {365, 9999, 5475, 9999, 1825, 1825};
    private static final int ORDER = 4;

    // ---- promises 1 to 8: days, plots

    private static void newObject() {
        WayLeaves x = new WayLeaves();
        for (int what = 0; what < 12; what++) due(what == 7 ? 1 : 0, x.count(what));
        for (int plot = 0; plot < 48; plot++) {
            due(0, x.owner(plot, 0));
            due(0, x.owner(plot, 9999));
            due(10, x.way(plot, plot, -1));
            due(0, x.high(plot));
        }
        for (int owner = 0; owner < 10; owner++) {
            due(0, x.hold(owner, 0));
            due(0, x.yearly(owner, 0));
            due(0, x.due(owner));
            due(owner == 0 ? NONE : 0, x.couldAsk(owner, 0, 1));
        }
        for (int sheet = 0; sheet < 4; sheet++) due(-11, x.cell(sheet, 0, 0));
        due(BAD, x.leaveTold(0, 0));
        due(NO, x.spanTold(0, 0));
        due(0, x.doubled());
        for (int of = 0; of < 10; of++) {
            for (int owner = 0; owner < 10; owner++) due(of == owner ? BAD : 0, x.heir(of, owner, 0));
        }
    }

    private static void pass() {
        limits(BAD, (x, a) -> x.pass(a[0]), new int[] {1}, 1, 2000);
        refused(FULL, x -> passTo(x, 9999), x -> x.pass(1));
        refused(FULL, x -> passTo(x, 9999), x -> x.pass(2000));
        refused(FULL, x -> passTo(x, 8000), x -> x.pass(2000));
        refused(BAD, x -> passTo(x, 9999), x -> x.pass(2001));
        refused(BAD, x -> passTo(x, 9999), x -> x.pass(0));
        WayLeaves x = world();
        passTo(x, 8000);
        due(9999, x.pass(1999));
        due(9999, x.count(0));
    }

    private static void sell() {
        limits(BAD, (x, a) -> x.sell(a[0], a[1], a[2]), new int[] {8, 1, 500}, 0, 47, 0, 9, NOW, 9999);
        refused(BAD, x -> passTo(x, 9999), x -> x.sell(8, 1, 9998));
        WayLeaves x = world();
        passTo(x, 9999);
        due(4, x.sell(8, 6, 9999));
        due(6, x.owner(8, 9999));
        due(1, x.owner(8, 9998));
    }

    private static void sellTillFull() {
        WayLeaves x = new WayLeaves();
        for (int n = 1; n <= 40; n++) due(n, x.sell(47, n % 10, 5));
        due(FULL, x.sell(47, 7, 5));
        due(40, x.count(1));
        due(0, x.owner(47, 5));
        refused(FULL, Fill::sales, y -> y.sell(8, 9, NOW));
        refused(BAD, Fill::sales, y -> y.sell(48, 9, NOW));
        refused(BAD, Fill::sales, y -> y.sell(8, 9, NOW - 1));
    }

    private static void ownerOfSeveralSales() {
        limits(BAD, (x, a) -> x.owner(a[0], a[1]), new int[] {8, 5}, 0, 47, 0, 9999);
        WayLeaves x = new WayLeaves();
        x.sell(5, 1, 9999);
        x.sell(5, 2, 0);
        x.sell(5, 3, 7);
        x.sell(5, 4, 7);
        x.sell(5, 5, 6);
        due(2, x.owner(5, 0));
        due(2, x.owner(5, 5));
        due(5, x.owner(5, 6));
        due(4, x.owner(5, 7));
        due(4, x.owner(5, 9998));
        due(1, x.owner(5, 9999));
        due(0, x.owner(4, 9999));
        due(0, x.owner(6, 9999));
        x.sell(5, 6, 0);
        due(6, x.owner(5, 0));
        due(5, x.owner(5, 6));
        x.sell(5, 0, 7);
        due(0, x.owner(5, 7));
        x.sell(5, 7, 8);
        x.pass(8);
        due(0, x.owner(5, 7));
        due(7, x.owner(5, 8));
    }

    private static void heir() {
        limits(BAD, (x, a) -> x.heir(a[0], a[1], a[2]), new int[] {4, 6, 1}, 0, 9, 0, 9, 0, 99);
        for (int owner = 0; owner < 10; owner++) {
            int own = owner;
            refused(BAD, x -> x.heir(own, own, 0));
            refused(BAD, x -> x.heir(own, own, 1));
        }
    }

    /** A GRANT for 100 times as many pence, so that they come to OWNER 0. */
    private static WayLeaves paying(int pence) {
        WayLeaves x = withSpans(8);
        x.leave(3, 0, 100 * pence, 0, -1);
        return x;
    }

    private static void partsAre(WayLeaves x, long... parts) {
        for (int owner = 0; owner < 10; owner++) due(parts[owner], x.yearly(owner, 0));
    }

    private static void shares() {
        // Without SHARES all stays; with one heir alone all goes, by whatever number.
        partsAre(paying(11), 11, 0, 0, 0, 0, 0, 0, 0, 0, 0);
        WayLeaves x = paying(11);
        x.heir(0, 9, 1);
        partsAre(x, 0, 0, 0, 0, 0, 0, 0, 0, 0, 11);
        x.heir(0, 9, 99);
        partsAre(x, 0, 0, 0, 0, 0, 0, 0, 0, 0, 11);
        // 11 by 99 and 99 and 99: 3 each, what is left goes to the least of them.
        x.heir(0, 4, 99);
        x.heir(0, 6, 99);
        partsAre(x, 0, 0, 0, 0, 5, 0, 3, 0, 0, 3);
        // What is cut to nothing for the least OWNER is still left to that one.
        x.heir(0, 4, 1);
        partsAre(x, 0, 0, 0, 0, 1, 0, 5, 0, 0, 5);
        // 0 SHARES again: no heir.
        due(1, x.heir(0, 4, 0));
        partsAre(x, 0, 0, 0, 0, 0, 0, 6, 0, 0, 5);
        due(99, x.heir(0, 6, 0));
        due(99, x.heir(0, 9, 0));
        partsAre(x, 11, 0, 0, 0, 0, 0, 0, 0, 0, 0);
        // Nothing is left over where it comes out even.
        x.heir(0, 1, 10);
        x.heir(0, 2, 1);
        partsAre(x, 0, 10, 1, 0, 0, 0, 0, 0, 0, 0);
        // All nine others, each with the most.
        for (int owner = 1; owner < 10; owner++) x.heir(0, owner, 99);
        partsAre(x, 0, 3, 1, 1, 1, 1, 1, 1, 1, 1);
        // OWNER 0 is the least that there is.
        WayLeaves z = paying(11);
        z.sell(8, 5, 0);
        z.heir(5, 0, 1);
        z.heir(5, 1, 1);
        partsAre(z, 6, 5, 0, 0, 0, 0, 0, 0, 0, 0);
        // A ring: heirs' own SHARES don't count for what comes by SHARES.
        WayLeaves y = paying(11);
        y.heir(0, 1, 1);
        y.heir(1, 0, 1);
        partsAre(y, 0, 11, 0, 0, 0, 0, 0, 0, 0, 0);
    }

    private static void set() {
        int[] least = {0, 0, 1, 0};
        int[] most = {60, 9999, 999, 1};
        for (int what = 0; what < 4; what++) {
            int[] good = {8, what, 1};
            limits(BAD, (x, a) -> x.set(a[0], a[1], a[2]), good, 0, 47, 0, 3, least[what], most[what]);
        }
        WayLeaves x = withSpans(0, 47);
        for (int plot = 0; plot < 48; plot += 47) {
            due(0, x.set(plot, 0, 60));
            due(60, x.set(plot, 0, 60));
            due(0, x.set(plot, 1, 9999));
            due(9999, x.set(plot, 1, 9999));
            due(10, x.set(plot, 2, 999));
            due(999, x.way(plot, plot, -1));
            due(0, x.set(plot, 3, 1));
            due(NONE, x.way(plot, plot, -1));
            due(1, x.set(plot, 3, 0));
            due(999, x.set(plot, 2, 1));
            due(1, x.way(plot, plot, -1));
        }
        for (int span = 0; span < 2; span++) {
            due(29 - 60, x.spanTold(span, 4));
            due(1000 + 9999, x.says(span, 1));
        }
    }

    private static void trees() {
        limits(BAD, (x, a) -> x.trees(a[0], a[1], a[2]), new int[] {8, 5, 3}, 0, 47, 0, 40, 0, 9);
        limits(BAD, (x, a) -> x.high(a[0]), new int[] {8}, 0, 47);
        WayLeaves x = new WayLeaves();
        due(0, x.high(0));
        due(0, x.trees(0, 40, 9));
        due(0, x.trees(47, 0, 9));
        due(0, x.trees(46, 40, 0));
        x.pass(364);
        due(40, x.high(0));
        due(0, x.high(47));
        x.pass(1);
        due(49, x.high(0));
        due(9, x.high(47));
        due(40, x.high(46));
        // Told anew: YEARS are counted from then on, and what had grown is gone.
        due(9, x.trees(47, 1, 1));
        due(1, x.high(47));
        x.pass(364);
        due(49, x.high(0));
        due(1, x.high(47));
        x.pass(1);
        due(58, x.high(0));
        due(2, x.high(47));
        // Of several tellings in a DAY the last one.
        due(2, x.trees(47, 9, 9));
        due(9, x.trees(47, 3, 0));
        due(3, x.high(47));
        passTo(x, 9999);
        due(40 + 27 * 9, x.high(0));
        due(3, x.high(47));
        due(0, x.high(1));
    }

    // ---- promises 9 to 12: towers, spans

    private static void tower() {
        limits(BAD, (x, a) -> x.tower(a[0], a[1]), new int[] {8, 40}, 0, 47, 10, 90);
        WayLeaves x = new WayLeaves();
        for (int n = 0; n < 16; n++) due(n, x.tower(0, n == 0 ? 10 : 90));
        due(FULL, x.tower(0, 90));
        due(16, x.count(2));
        due(0, x.span(14, 15, 0, 50));
        due(90, x.spanTold(0, 3));
        due(BAD, x.span(15, 16, 0, 50));
        due(1, x.span(15, 0, 0, 50));
        due(10, x.spanTold(1, 3));
        due(2, x.span(0, 15, 0, 50));
        due(10, x.spanTold(2, 3));
        refused(FULL, Fill::towers, y -> y.tower(0, 40));
        refused(BAD, Fill::towers, y -> y.tower(48, 40));
        refused(BAD, Fill::towers, y -> y.tower(0, 9));
    }

    private static void span() {
        limits(BAD, (x, a) -> x.span(a[0], 1, a[1], a[2]), new int[] {0, 8, 100}, 0, 2, 0, 47, 50, 600);
        limits(BAD, (x, a) -> x.span(1, a[0], a[1], a[2]), new int[] {0, 8, 100}, 0, 2, 0, 47, 50, 600);
        for (int tower = 0; tower < 3; tower++) {
            int alike = tower;
            refused(BAD, x -> x.span(alike, alike, 8, 100));
        }
        due(BAD, new WayLeaves().span(0, 1, 8, 100));
        WayLeaves x = withSpans();
        for (int n = 0; n < 16; n++) due(n, x.span(n % 2, 1 - n % 2, n, 50 + n));
        due(FULL, x.span(0, 1, 8, 100));
        due(16, x.count(3));
        due(15, x.spanTold(15, 0));
        due(65, x.spanTold(15, 1));
        due(NO, x.spanTold(16, 0));
        refused(FULL, Fill::spans, y -> y.span(0, 1, 8, 100));
        refused(BAD, Fill::spans, y -> y.span(0, 0, 8, 100));
        refused(BAD, Fill::spans, y -> y.span(0, 1, 48, 100));
        refused(BAD, Fill::spans, y -> y.span(0, 1, 8, 601));
    }

    private static void heat() {
        limits(-100, (x, a) -> x.heat(a[0], a[1]), new int[] {1, 30}, 0, 3, -20, 90);
        due(-100, new WayLeaves().heat(0, 20));
        WayLeaves x = withSpans(8, 9);
        due(20, x.heat(1, -20));
        due(-20, x.heat(1, 90));
        due(90, x.heat(1, 0));
        due(0, x.heat(1, -1));
        due(-1, x.heat(1, 20));
        due(20, x.heat(0, 20));
    }

    private static void spanTold() {
        limits(NO, (x, a) -> x.spanTold(a[0], a[1]), new int[] {1, 2}, 0, 3, 0, 7);
        due(NO, new WayLeaves().spanTold(0, 0));
    }

    private static void sagIs(WayLeaves x, int span, int heat, int sag) {
        x.heat(span, heat);
        due(sag, x.spanTold(span, 2));
        due(30 - sag, x.spanTold(span, 3));
    }

    private static void sag() {
        WayLeaves x = withSpans();
        for (int length : new int[] {50, 100, 141, 142, 600, 54}) x.span(0, 1, 8, length);
        // Each of the two quotients is cut toward 0 for itself, and only both together are 0 at least.
        sagIs(x, 0, 20, 0);
        sagIs(x, 0, 39, 0);
        sagIs(x, 0, 40, 1);
        sagIs(x, 0, 90, 3);
        sagIs(x, 0, -20, 0);
        sagIs(x, 1, 20, 1);
        sagIs(x, 1, 11, 1);
        sagIs(x, 1, 10, 0);
        sagIs(x, 1, 1, 0);
        sagIs(x, 1, 0, 0);
        sagIs(x, 1, -20, 0);
        sagIs(x, 1, 29, 1);
        sagIs(x, 1, 30, 2);
        sagIs(x, 2, 20, 1);
        sagIs(x, 3, 20, 2);
        sagIs(x, 3, 13, 2);
        sagIs(x, 3, 12, 1);
        sagIs(x, 4, 20, 36);
        sagIs(x, 4, 90, 36 + 42);
        sagIs(x, 4, -20, 36 - 24);
        sagIs(x, 5, 57, 1);
        sagIs(x, 5, 58, 2);
    }

    private static void nearAndTooNear() {
        WayLeaves x = withSpans(8, 9);
        due(29, x.spanTold(0, 4));
        for (int roof = 23; roof <= 24; roof++) {
            x.set(8, 0, roof);
            due(29 - roof, x.spanTold(0, 4));
            due(roof - 23, x.spanTold(0, 5));
            due(roof - 23, x.count(11));
            due(roof - 23, x.says(0, 0));
        }
        // The greater of roof and tree: not both together, not the later one.
        x.trees(8, 23, 2);
        due(5, x.spanTold(0, 4));
        x.trees(8, 24, 2);
        due(5, x.spanTold(0, 4));
        x.trees(8, 25, 2);
        due(4, x.spanTold(0, 4));
        x.pass(364);
        due(4, x.spanTold(0, 4));
        x.pass(1);
        due(2, x.spanTold(0, 4));
        due(29, x.spanTold(1, 4));
        due(0, x.spanTold(1, 5));
        due(1, x.count(11));
        x.set(9, 0, 60);
        due(29 - 60, x.spanTold(1, 4));
        due(2, x.count(11));
    }

    private static void ends() {
        // None at all: it has NONE in DAY.
        WayLeaves x = withSpans(8);
        due(0, x.spanTold(0, 6));
        x.pass(10);
        due(10, x.spanTold(0, 6));
        // One that begins behind DAY does not count for DAY.
        x.leave(0, 0, 0, 11, -1);
        due(10, x.spanTold(0, 6));
        x.pass(1);
        due(11 + 365, x.spanTold(0, 6));
        x.pass(364);
        due(11 + 365, x.spanTold(0, 6));
        x.pass(1);
        due(11 + 365, x.spanTold(0, 6));
        x.pass(1);
        due(11 + 366, x.spanTold(0, 6));
        // The last DAY: NONE in it, or none till then.
        WayLeaves y = withSpans(8, 9);
        y.leave(1, 0, 0, 0, -1);
        due(9999, y.spanTold(0, 6));
        y.pass(1);
        y.leave(1, 1, 0, 1, -1);
        due(NONE, y.spanTold(1, 6));
        passTo(y, 9999);
        due(9999, y.spanTold(0, 6));
        due(NONE, y.spanTold(1, 6));
        due(1, y.count(10));
        due(2, y.leave(1, 0, 0, 9999, -1));
        due(NONE, y.spanTold(0, 6));
        due(0, y.count(10));
    }

    private static void endsFromTheDayOn() {
        // What ends in DAY itself, or ended ahead of it, is no end of what still goes on.
        WayLeaves x = withSpans(8);
        x.leave(4, 0, 0, 0, -1);
        x.leave(1, 0, 0, 0, -1);
        x.leave(0, 0, 0, 0, -1);
        x.sell(8, 1, 365);
        x.appeal(0);
        x.undo(0, 365);
        for (int now = 364; now <= 366; now++) {
            passTo(x, now);
            due(9999, x.spanTold(0, 6));
        }
        // As many changes as there can be, each in a DAY of its own: SALES, UNDONE ones, what has LASTED.
        WayLeaves z = withSpans(8);
        for (int n = 0; n < 23; n++) z.leave(4, 0, 0, n, -1);
        z.leave(1, 0, 0, 0, -1);
        z.pass(22);
        for (int n = 0; n < 23; n++) due(1, z.appeal(n));
        for (int n = 0; n < 23; n++) due(0, z.undo(n, 100 + n));
        for (int n = 0; n < 40; n++) z.sell(8, 1 + n % 9, 200 + n);
        due(9999, z.spanTold(0, 6));
        WayLeaves y = withSpans(8);
        for (int n = 0; n < 23; n++) y.leave(4, 0, 0, 0, -1);
        for (int n = 0; n < 23; n++) y.appeal(n);
        for (int n = 0; n < 23; n++) y.undo(n, 1 + 2 * n);
        for (int n = 0; n < 40; n++) y.sell(8, 1 + n % 9, 46 + n);
        due(45, y.spanTold(0, 6));
        y.leave(4, 0, 0, 0, -1);
        due(1825, y.spanTold(0, 6));
        y.pass(42);
        y.appeal(23);
        y.undo(23, 1000);
        due(1000, y.spanTold(0, 6));
    }

    private static void endsBySaleAndOrder() {
        // An ORDER fills a gap as a LEAVE does.
        WayLeaves x = withSpans(8);
        x.leave(0, 0, 0, 0, -1);
        x.leave(4, 0, 0, 365, -1);
        due(365 + 1825, x.spanTold(0, 6));
        x.leave(0, 0, 0, 365 + 1825, -1);
        due(365 + 1825 + 365, x.spanTold(0, 6));
        // A LEAVE that ends with a SALE; sold back to the OWNER of its beginning it is IN FORCE again.
        WayLeaves y = withSpans(8);
        y.leave(2, 0, 0, 0, -1);
        y.sell(8, 0, 50);
        due(5475, y.spanTold(0, 6));
        y.sell(8, 1, 100);
        due(100, y.spanTold(0, 6));
        y.sell(8, 0, 101);
        due(100, y.spanTold(0, 6));
        y.pass(100);
        due(100, y.spanTold(0, 6));
        y.pass(1);
        due(5475, y.spanTold(0, 6));
        y.sell(8, 5, 9999);
        due(5475, y.spanTold(0, 6));
        y.renew(0);
        due(9999, y.spanTold(0, 6));
    }

    // ---- promises 13 to 19: leaves

    private static void leave() {
        int[] good = {0, 1, 100, 500, -1};
        limits(BAD, (x, a) -> x.leave(a[0], a[1], a[2], a[3], a[4]), good, 0, 5, 0, 3, 0, 99999, NOW, 9999, -1, -1);
        // LEAVES 1 and 2 are for SPAN 1: these and none beside them can be hung on.
        for (int on = 0; on < 9; on++) {
            int other = on;
            if (on == 1 || on == 2) due(8, world().leave(0, 1, 100, 500, on));
            else refused(BAD, x -> x.leave(0, 1, 100, 500, other));
        }
        refused(BAD, x -> x.leave(0, 1, 100, 500, -2));
        due(BAD, new WayLeaves().leave(0, 0, 0, 0, -1));
        WayLeaves x = withSpans(8);
        for (int n = 0; n < 24; n++) due(n, x.leave(n % 6, 0, n, 9999 - n, n - 1));
        due(FULL, x.leave(0, 0, 0, 0, 23));
        due(24, x.count(4));
        due(5, x.leaveTold(23, 0));
        due(9999 - 23, x.leaveTold(23, 2));
        due(BAD, x.leaveTold(24, 0));
        refused(FULL, Fill::leaves, y -> y.leave(0, 0, 0, NOW, -1));
        refused(BAD, Fill::leaves, y -> y.leave(6, 0, 0, NOW, -1));
        refused(BAD, Fill::leaves, y -> y.leave(0, 4, 0, NOW, -1));
        refused(BAD, Fill::leaves, y -> y.leave(0, 0, 100000, NOW, -1));
        refused(BAD, Fill::leaves, y -> y.leave(0, 0, 0, NOW - 1, -1));
        refused(BAD, Fill::leaves, y -> y.leave(0, 0, 0, NOW, 24));
    }

    private static void leaveTold() {
        limits(BAD, (x, a) -> x.leaveTold(a[0], a[1]), new int[] {4, 2}, 0, 7, 0, 8);
        due(BAD, new WayLeaves().leaveTold(0, 0));
        WayLeaves x = world();
        due(NONE, x.leaveTold(4, 7));
        due(1, x.leaveTold(4, 8));
        due(NOW + 30, x.leaveTold(5, 7));
        due(0, x.leaveTold(3, 8));
        due(2 * 365, x.leaveTold(0, 3));
        due(6 * 9999, x.leaveTold(1, 3));
    }

    private static void lasts() {
        for (int kind = 0; kind < 6; kind++) {
            WayLeaves x = withSpans(8);
            x.leave(kind, 0, 0, 3, -1);
            int has = kind == ORDER ? 2 : 1;
            int end = 3 + LASTS[kind];
            due(0, x.has(0, 2));
            due(has, x.has(0, 3));
            due(LASTS[kind], x.leaveTold(0, 3));
            due(has, x.has(0, Math.min(9999, end - 1)));
            due(end > 9999 ? BAD : 0, x.has(0, end));
            x.pass(2);
            due(0, x.leaveTold(0, 6));
            x.pass(1);
            due(1, x.leaveTold(0, 6));
            passTo(x, Math.min(9999, end - 1));
            due(1, x.leaveTold(0, 6));
            if (end > 9999) continue;
            x.pass(1);
            due(0, x.leaveTold(0, 6));
        }
    }

    private static void binds() {
        int[] binds = {0, 1, 0, 1, 1, 0};
        for (int kind = 0; kind < 6; kind++) {
            WayLeaves x = withSpans(8);
            int has = kind == ORDER ? 2 : 1;
            x.leave(kind, 0, 0, 100, -1);
            due(binds[kind], x.leaveTold(0, 4));
            // The SALE of the DAY of its beginning makes whose it was then; so does one ahead of it.
            x.sell(8, 1, 100);
            due(has, x.has(0, 100));
            due(has, x.has(0, 200));
            x.sell(8, 2, 99);
            due(has, x.has(0, 100));
            // The DAY behind it another one's.
            x.sell(8, 3, 101);
            due(has, x.has(0, 100));
            due(binds[kind] * has, x.has(0, 101));
            due(binds[kind] * has, x.has(0, 200));
        }
    }

    private static void yearlyOfKinds() {
        int[] sums = {0, 14, 15, 29, 30, 99, 100, 199, 99999};
        for (int sum : sums) {
            WayLeaves x = withSpans(8);
            for (int kind = 0; kind < 6; kind++) x.leave(kind, 0, sum, 0, -1);
            due(sum / 15, x.leaveTold(0, 5));
            due(0, x.leaveTold(1, 5));
            due(sum / 15 * 2, x.leaveTold(2, 5));
            due(sum / 100, x.leaveTold(3, 5));
            due(sum / 15, x.leaveTold(4, 5));
            due(sum / 15 * 2, x.leaveTold(5, 5));
            due(sum / 15 * 6 + sum / 100, x.yearly(0, 0));
        }
    }

    private static void renew() {
        limits(BAD, (x, a) -> x.renew(a[0]), new int[] {0}, 0, 7);
        due(BAD, new WayLeaves().renew(0));
        for (int order = 3; order < 7; order++) {
            int leave = order;
            refused(-13, x -> x.renew(leave));
        }
        refused(STATE, x -> x.renew(1));
        WayLeaves x = withSpans(8);
        x.leave(0, 0, 0, 0, -1);
        for (int n = 1; n <= 5; n++) {
            due(n, x.renew(0));
            due(365 * (n + 1), x.leaveTold(0, 3));
            due(1, x.has(0, 365 * (n + 1) - 1));
            due(0, x.has(0, 365 * (n + 1)));
            due(365 * (n + 1), x.spanTold(0, 6));
        }
        due(STATE, x.renew(0));
        due(365 * 6, x.leaveTold(0, 3));
    }

    private static void appeal() {
        limits(BAD, (x, a) -> x.appeal(a[0]), new int[] {4}, 0, 7);
        due(BAD, new WayLeaves().appeal(0));
        for (int leave : new int[] {0, 1, 2, 7}) refused(-13, x -> x.appeal(leave));
        // Long begun, APPEALED, UNDONE, and not begun.
        for (int leave = 3; leave < 7; leave++) {
            int order = leave;
            refused(STATE, x -> x.appeal(order));
        }
        for (int gone = 0; gone < 45; gone++) {
            WayLeaves x = withSpans(8);
            x.leave(4, 0, 0, 7, -1);
            x.pass(6);
            due(STATE, x.appeal(0));
            x.pass(1 + gone);
            due(gone <= 42 ? 1 : STATE, x.appeal(0));
            due(gone <= 42 ? 1 : 0, x.leaveTold(0, 8));
            due(STATE, x.appeal(0));
        }
    }

    private static void undo() {
        limits(BAD, (x, a) -> x.undo(a[0], a[1]), new int[] {4, 5000}, 0, 7, NOW - 20, 9999);
        due(BAD, new WayLeaves().undo(0, 0));
        for (int leave : new int[] {0, 1, 2, 7}) {
            refused(-13, x -> x.undo(leave, 9999));
            refused(BAD, x -> x.undo(leave, 10000));
            refused(BAD, x -> x.undo(leave, -1));
        }
        refused(-13, x -> x.undo(7, NOW - 5));
        refused(BAD, x -> x.undo(7, NOW - 6));
        // Not APPEALED, UNDONE, not begun.
        refused(STATE, x -> x.undo(3, 0));
        refused(STATE, x -> x.undo(5, NOW + 31));
        refused(STATE, x -> x.undo(5, NOW - 10));
        refused(STATE, x -> x.undo(6, NOW + 5));
        refused(BAD, x -> x.undo(6, NOW + 4));
        due(2, world().undo(4, 9999));
    }

    private static void undoneFromADay() {
        for (int day : new int[] {10, 11, 10 + 1824, 10 + 1825, 9999}) {
            WayLeaves x = withSpans(8);
            x.leave(4, 0, 0, 10, -1);
            x.pass(10);
            x.appeal(0);
            due(0, x.undo(0, day));
            due(day, x.leaveTold(0, 7));
            int end = Math.min(day, 10 + 1825);
            due(end == 10 ? 0 : 2, x.has(0, 10));
            due(end == 10 ? 0 : 2, x.has(0, end - 1));
            due(0, x.has(0, end));
            due(end, x.spanTold(0, 6));
            due(STATE, x.undo(0, day));
        }
        // From DAY 0 on and UNDONE in it: 0 is a DAY as any other.
        WayLeaves x = withSpans(8);
        x.leave(4, 0, 0, 0, -1);
        x.appeal(0);
        due(BAD, x.undo(0, -1));
        due(0, x.undo(0, 0));
        due(0, x.leaveTold(0, 7));
        due(STATE, x.undo(0, 0));
        due(0, x.has(0, 0));
        due(0, x.leaveTold(0, 6));
    }

    private static void hanging() {
        // 0 < 1 < 2 < 3, 4 on 0, 5 on none, 6 on 5, 7 on 3.
        int[] ons = {-1, 0, 1, 2, 0, -1, 5, 3};
        WayLeaves x = withSpans(8);
        for (int on : ons) x.leave(4, 0, 0, 0, on);
        for (int leave = 0; leave < 8; leave++) x.appeal(leave);
        int[] hang = {5, 3, 2, 1, 0, 1, 0, 0};
        for (int leave = 7; leave >= 0; leave--) {
            due(2, x.has(0, 0));
            due(hang[leave], x.undo(leave, 100 + leave));
        }
        // What HANGS counts also if it is not IN FORCE, and of another SPAN none can.
        WayLeaves y = withSpans(8);
        y.leave(4, 0, 0, 0, -1);
        y.leave(0, 0, 0, 9999, 0);
        y.leave(5, 0, 0, 0, 1);
        y.appeal(0);
        due(1, y.leaveTold(0, 6));
        due(0, y.leaveTold(2, 6));
        due(2, y.undo(0, 5));
    }

    private static void hangsAsLong() {
        // A DEED on a LEAVE: from the later beginning till the earlier end.
        WayLeaves x = withSpans(8);
        x.leave(0, 0, 0, 10, -1);
        x.leave(1, 0, 0, 0, 0);
        x.leave(3, 0, 0, 20, 1);
        due(0, x.has(0, 9));
        due(1, x.has(0, 10));
        due(1, x.has(0, 374));
        due(0, x.has(0, 375));
        for (int leave = 0; leave < 3; leave++) due(0, x.leaveTold(leave, 6));
        x.sell(8, 4, 200);
        due(1, x.has(0, 199));
        due(0, x.has(0, 200));
        x.sell(8, 0, 300);
        due(0, x.has(0, 299));
        due(1, x.has(0, 300));
        x.pass(20);
        for (int leave = 0; leave < 3; leave++) due(1, x.leaveTold(leave, 6));
        due(200, x.spanTold(0, 6));
    }

    private static void has() {
        limits(BAD, (x, a) -> x.has(a[0], a[1]), new int[] {1, 5}, 0, 3, 0, 9999);
        due(BAD, new WayLeaves().has(0, 0));
        WayLeaves x = withSpans(8, 8);
        due(0, x.has(0, 0));
        due(0, x.has(0, 9999));
        x.leave(4, 0, 0, 9999, -1);
        due(2, x.has(0, 9999));
        due(0, x.has(0, 9998));
        x.leave(0, 0, 0, 9999, 0);
        due(1, x.has(0, 9999));
        due(0, x.has(1, 9999));
    }

    private static void yearly() {
        limits(NO, (x, a) -> x.yearly(a[0], a[1]), new int[] {1, NOW}, 0, 9, 0, 9999);
        WayLeaves x = withSpans(8, 9);
        x.leave(2, 0, 99999, 0, -1);
        x.leave(3, 0, 99999, 0, -1);
        x.sell(8, 9, 5000);
        due(2 * 6666 + 999, x.yearly(0, 4999));
        due(0, x.yearly(9, 4999));
        due(0, x.yearly(0, 5000));
        due(999, x.yearly(9, 5000));
        due(999, x.yearly(9, 9998));
        due(0, x.yearly(9, 9999));
        // All 24 with the most.
        WayLeaves y = withSpans(8);
        for (int n = 0; n < 24; n++) y.leave(2, 0, 99999, 0, -1);
        due(24 * 13332, y.yearly(0, 5474));
        due(0, y.yearly(0, 5475));
    }

    public static void main(String[] args) {
        check("promise 1", LandBoundariesTest::newObject);
        check("promise 2", LandBoundariesTest::pass);
        check("promise 3", LandBoundariesTest::sell);
        check("promise 3, FULL", LandBoundariesTest::sellTillFull);
        check("promise 4", LandBoundariesTest::ownerOfSeveralSales);
        check("promise 5", LandBoundariesTest::heir);
        check("terms 1, SHARES", LandBoundariesTest::shares);
        check("promise 6", LandBoundariesTest::set);
        check("promises 7, 8", LandBoundariesTest::trees);
        check("promise 9", LandBoundariesTest::tower);
        check("promise 10", LandBoundariesTest::span);
        check("promise 11", LandBoundariesTest::heat);
        check("promise 12", LandBoundariesTest::spanTold);
        check("terms 2, SAG", LandBoundariesTest::sag);
        check("terms 2, NEAR", LandBoundariesTest::nearAndTooNear);
        check("terms 3, ENDS", LandBoundariesTest::ends);
        check("terms 3, ENDS from DAY on", LandBoundariesTest::endsFromTheDayOn);
        check("terms 3, ENDS by SALES", LandBoundariesTest::endsBySaleAndOrder);
        check("promise 13", LandBoundariesTest::leave);
        check("promise 14", LandBoundariesTest::leaveTold);
        check("terms 3, LASTS", LandBoundariesTest::lasts);
        check("terms 3, BINDS", LandBoundariesTest::binds);
        check("terms 3, YEARLY", LandBoundariesTest::yearlyOfKinds);
        check("promise 15", LandBoundariesTest::renew);
        check("promise 16", LandBoundariesTest::appeal);
        check("promise 17", LandBoundariesTest::undo);
        check("terms 3, UNDONE", LandBoundariesTest::undoneFromADay);
        check("terms 3, HANG", LandBoundariesTest::hanging);
        check("terms 3, IN FORCE", LandBoundariesTest::hangsAsLong);
        check("promise 18", LandBoundariesTest::has);
        check("promise 19", LandBoundariesTest::yearly);
        endOfTest();
    }
}
