/** Each sentence that names a boundary case of ways, what is to ask, the host (promises 29 to 39). */
public final class WayBoundariesTest extends Checks {
    // ---- promises 29 to 34: ways, what is to ask

    private static void hold() {
        limits(BAD, (x, a) -> x.hold(a[0], a[1]), new int[] {1, 5}, 0, 9, 0, 9999);
        WayLeaves x = new WayLeaves();
        due(0, x.hold(0, 1));
        due(11, x.way(0, 0, -1));
        due(1, x.hold(0, 9999));
        due(10009, x.way(0, 0, -1));
        due(9999, x.hold(0, 0));
        due(10, x.way(0, 0, -1));
        // The dearest PLOTS there can be, all the way to and fro.
        x.hold(0, 9999);
        for (int plot = 0; plot < 48; plot++) x.set(plot, 2, 999);
        due(13 * 10998, x.way(0, 47, -1));
        for (int row = 1; row < 6; row += 2) {
            for (int column = 0; column < 8; column++) {
                if (column != (row % 4 == 1 ? 7 : 0)) x.set(8 * row + column, 3, 1);
            }
        }
        due(27 * 10998, x.way(0, 47, -1));
    }

    private static void way() {
        limits(BAD, (x, a) -> x.way(a[0], a[1], -1), new int[] {0, 2}, 0, 47, 0, 47);
        limits(NONE, (x, a) -> x.way(0, 2, a[0]), new int[] {0}, -1, 2);
        limits(NONE, (x, a) -> x.way(3, 3, a[0]), new int[] {0}, -1, 0);
        refused(BAD, x -> x.way(48, 17, 99));
        for (int i = -2; i < 3; i++) {
            int nth = i;
            refused(NONE, x -> x.way(17, 0, nth));
            refused(NONE, x -> x.way(0, 17, nth));
            refused(NONE, x -> x.way(17, 17, nth));
        }
        WayLeaves x = new WayLeaves();
        for (int plot = 0; plot < 48; plot++) {
            due(10, x.way(plot, plot, -1));
            due(plot, x.way(plot, plot, 0));
            due(NONE, x.way(plot, plot, 1));
        }
    }

    private static void besides() {
        // From each PLOT the ones beside, above and below it: a row's end does not lead to the next row's beginning.
        WayLeaves x = new WayLeaves();
        for (int plot = 7; plot < 47; plot += 8) {
            due(90, x.way(plot, plot + 1, -1));
            due(90, x.way(plot + 1, plot, -1));
            due(20, x.way(plot, plot - 1, -1));
            due(20, x.way(plot, plot + 8, -1));
            due(20, x.way(plot + 8, plot, -1));
        }
        due(130, x.way(0, 47, -1));
        due(130, x.way(47, 0, -1));
        due(130, x.way(7, 40, -1));
        due(130, x.way(40, 7, -1));
        due(60, x.way(0, 40, -1));
        due(80, x.way(0, 7, -1));
        due(80, x.way(47, 40, -1));
        due(60, x.way(47, 7, -1));
    }

    private static void cheapestFewestLeast() {
        // 0 to 2 by 1 (10 + v + 10), or by 8, 9, 10 (50).
        for (int v = 29; v <= 31; v++) {
            WayLeaves x = new WayLeaves();
            x.set(1, 2, v);
            due(Math.min(20 + v, 50), x.way(0, 2, -1));
            due(v <= 30 ? 1 : 8, x.way(0, 2, 1));
            due(v <= 30 ? NONE : 10, x.way(0, 2, 3));
        }
        // The same edge by HOLD instead of COST.
        for (int v = 19; v <= 21; v++) {
            WayLeaves x = new WayLeaves();
            x.sell(1, 4, 0);
            x.hold(4, v);
            due(Math.min(30 + v, 50), x.way(0, 2, -1));
            due(v <= 20 ? 1 : 8, x.way(0, 2, 1));
            due(20, x.couldAsk(4, 0, 2));
        }
        // Like costs and like many PLOTS: at each step the least next one.
        WayLeaves x = new WayLeaves();
        int[] down = {0, 1, 2, 10, 18};
        int[] up = {18, 10, 2, 1, 0};
        int[] right = {2, 1, 0, 8, 16};
        int[] left = {16, 8, 0, 1, 2};
        for (int i = 0; i < 5; i++) {
            due(down[i], x.way(0, 18, i));
            due(up[i], x.way(18, 0, i));
            due(right[i], x.way(2, 16, i));
            due(left[i], x.way(16, 2, i));
        }
    }

    private static void bars() {
        // The corner is shut in; then the ends are BARS themselves.
        WayLeaves x = new WayLeaves();
        x.set(1, 3, 1);
        due(100, x.way(0, 7, -1));
        x.set(8, 3, 1);
        due(NONE, x.way(0, 7, -1));
        due(NONE, x.way(0, 7, 0));
        due(NONE, x.way(7, 0, -1));
        due(10, x.way(0, 0, -1));
        due(NONE, x.way(1, 7, -1));
        due(NONE, x.way(7, 1, -1));
        due(NONE, x.way(1, 1, -1));
        due(NONE, x.way(1, 1, 0));
        x.set(1, 3, 0);
        due(80, x.way(0, 7, -1));
    }

    private static void couldAsk() {
        int[] good = {1, 0, 18};
        limits(BAD, (x, a) -> x.couldAsk(a[0], a[1], a[2]), good, 0, 9, 0, 47, 0, 47);
        WayLeaves x = new WayLeaves();
        // All is OWNER 0's: its ends are its own, also the one PLOT that is both.
        due(-1, x.couldAsk(0, 5, 5));
        due(-1, x.couldAsk(0, 0, 47));
        due(0, x.couldAsk(9, 5, 5));
        // An OWNER that has none on the way, or none at all.
        x.sell(40, 1, 0);
        x.hold(1, 9999);
        due(0, x.couldAsk(1, 0, 7));
        // One end its own, the other one not; both.
        due(-1, x.couldAsk(1, 40, 0));
        due(-1, x.couldAsk(1, 0, 40));
        due(-1, x.couldAsk(1, 40, 40));
        // A wall of its own: none without.
        for (int plot = 1; plot < 41; plot += 8) x.sell(plot, 2, 0);
        x.hold(1, 0);
        due(100, x.couldAsk(2, 0, 2));
        x.sell(41, 2, 3);
        due(100, x.couldAsk(2, 0, 2));
        x.pass(2);
        due(100, x.couldAsk(2, 0, 2));
        x.pass(1);
        due(-1, x.couldAsk(2, 0, 2));
        // None at all, with or without.
        x.set(0, 3, 1);
        due(-1, x.couldAsk(3, 0, 2));
        due(-1, x.couldAsk(3, 2, 0));
    }

    private static void asking() {
        limits(BAD, (x, a) -> x.asking(a[0], a[1]), new int[] {1, 7}, 0, 3, 1, 60);
        due(BAD, new WayLeaves().asking(0, 1));
        WayLeaves x = withSpans(8, 9);
        due(1, x.spanTold(1, 7));
        due(1, x.asking(1, 60));
        due(60, x.spanTold(1, 7));
        due(1, x.spanTold(0, 7));
        due(60, x.asking(1, 1));
    }

    private static void toAskBits() {
        limits(BAD, (x, a) -> x.toAsk(a[0], -1), new int[] {3}, 0, 15);
        limits(NONE, (x, a) -> x.toAsk(15, a[0]), new int[] {0}, -1, 3);
        refused(BAD, x -> x.toAsk(16, 9));
        for (int b = 4; b < 32; b++) {
            int bits = 1 << b;
            refused(BAD, x -> x.toAsk(bits, 0));
            refused(BAD, x -> x.toAsk(bits | 1, -1));
        }
        WayLeaves none = new WayLeaves();
        due(0, none.toAsk(0, -1));
        due(NONE, none.toAsk(0, 0));
        due(NONE, none.toAsk(0, -2));
        due(BAD, none.toAsk(1, 0));
        WayLeaves x = withSpans();
        Fill.spans(x);
        for (int n = 1; n <= 16; n++) {
            int bits = (1 << n) - 1;
            due(n <= 6 ? n : BAD, x.toAsk(bits, -1));
            due(n <= 6 ? n - 1 : BAD, x.toAsk(bits, n - 1));
            due(n <= 6 ? NONE : BAD, x.toAsk(bits, n));
            due(n <= 6 ? 16 - n : BAD, x.toAsk(bits << 16 - n, 0));
        }
        due(BAD, x.toAsk(1 << 16, 0));
    }

    private static void lateByADay() {
        // SPAN 0 has LEAVE till 365; done in that DAY it is in time, behind it LATE.
        for (int days = 59; days <= 60; days++) {
            for (int now = 304; now <= 307; now++) {
                WayLeaves x = withSpans(8);
                x.leave(0, 0, 0, 0, -1);
                x.asking(0, days);
                x.pass(now);
                due(now + days > 365 ? 1 : 0, x.toAsk(1, -1));
                due(0, x.toAsk(1, 0));
            }
        }
        // ENDS -1: never LATE, however long it takes; ENDS 9999 asked in that DAY: LATE.
        WayLeaves x = withSpans(8, 9);
        x.pass(1);
        x.leave(1, 0, 0, 1, -1);
        passTo(x, 9999);
        x.asking(0, 60);
        due(NONE, x.spanTold(0, 6));
        due(9999, x.spanTold(1, 6));
        due(0, x.toAsk(1, -1));
        due(1, x.toAsk(2, -1));
        due(1, x.toAsk(3, -1));
        due(1, x.toAsk(3, 0));
    }

    private static void askOrder() {
        // The fewest LATE goes ahead of the least sum of DAYS, and that ahead of the lesser SPAN.
        WayLeaves x = withSpans(8, 9, 10);
        for (int span = 0; span < 3; span++) x.leave(0, span, 0, 0, -1);
        x.asking(0, 10);
        x.asking(1, 10);
        x.asking(2, 9);
        due(2, x.toAsk(7, 0));
        due(0, x.toAsk(7, 1));
        due(1, x.toAsk(7, 2));
        x.asking(2, 10);
        for (int i = 0; i < 3; i++) due(i, x.toAsk(7, i));
        x.asking(2, 30);
        x.renew(0);
        x.renew(1);
        x.pass(335);
        due(0, x.toAsk(7, -1));
        due(2, x.toAsk(7, 0));
        due(0, x.toAsk(7, 1));
        due(1, x.toAsk(7, 2));
        x.pass(1);
        due(1, x.toAsk(7, -1));
        due(0, x.toAsk(7, 0));
        due(1, x.toAsk(7, 1));
        due(2, x.toAsk(7, 2));
    }

    private static void count() {
        limits(BAD, (x, a) -> x.count(a[0]), new int[] {0}, 0, 11);
        WayLeaves x = world();
        int[] want = {NOW, 3, 3, 4, 8, 4, 3, 3, 7, 1, 0, 1};
        for (int what = 0; what < 12; what++) due(want[what], x.count(what));
    }

    private static void countOfFull() {
        WayLeaves x = world();
        Fill.sales(x);
        Fill.towers(x);
        Fill.spans(x);
        Fill.leaves(x);
        Fill.claims(x);
        Fill.looks(x);
        Fill.texts(x);
        Fill.tape(x);
        int[] want = {NOW, 40, 16, 16, 24, 30, 20, 6, 160, 1, 12, 1};
        for (int what = 0; what < 12; what++) due(want[what], x.count(what));
    }

    // ---- promises 35 to 39: the host

    private static void sheet() {
        limits(BAD, (x, a) -> x.sheet(a[0], a[1], 5), new int[] {1, 1}, 0, 3, -1, 2);
        for (int sort = 0; sort < 3; sort++) {
            int told = sort;
            for (int n : new int[] {41, 42, MAX}) refused(BAD, x -> x.sheet(1, told, n));
            for (int n : new int[] {-1, -2, MIN}) refused(-14, x -> x.sheet(1, told, n));
            for (int n : new int[] {0, 1, 39, 40}) {
                WayLeaves x = world();
                due(1, x.sheet(1, sort, n));
                due(-12, x.cell(1, n, 5));
                due(n == 0 ? -12 : 1, x.cell(1, n - 1, 5));
                due(0, x.costs(0, 1, sort, 0, Math.max(0, n - 1)));
                due(n == 0 ? -12 : 1, x.costs(0, 1, sort, Math.max(0, n - 1), 1));
                due(-12, x.costs(0, 1, sort, n, 1));
            }
        }
        refused(BAD, x -> x.sheet(1, 3, -1));
        refused(BAD, x -> x.sheet(4, 0, -1));
        refused(BAD, x -> x.sheet(4, -1, 0));
        refused(BAD, x -> x.sheet(1, -2, 0));
        // Missing by sort -1, whatever n is; also one that is missing already.
        for (int n : new int[] {MIN, -1, 0, 40, 41, MAX}) {
            WayLeaves x = world();
            due(1, x.sheet(1, -1, n));
            due(-11, x.cell(1, 0, 0));
            due(1, x.sheet(1, -1, n));
            due(1, x.sheet(3, -1, n));
            due(-11, x.cell(3, 0, 0));
            due(1, x.cell(0, 0, 0));
        }
    }

    private static void sheetAllZero() {
        // A row becomes all 0 anew, also of like sort and size; then longer, with nothing left of before.
        WayLeaves x = new WayLeaves();
        x.sheet(0, 2, 40);
        for (int i = 0; i < 40; i++) x.cell(0, i, 5);
        due(40, x.costs(0, 0, 2, 0, 40));
        x.sheet(0, 2, 40);
        due(0, x.costs(0, 0, 2, 0, 40));
        x.cell(0, 39, 5);
        x.sheet(0, 2, 1);
        x.sheet(0, 2, 40);
        due(0, x.costs(0, 0, 2, 0, 40));
        x.cell(0, 0, 5);
        x.sheet(0, -1, 0);
        x.sheet(0, 1, 3);
        due(0, x.costs(0, 0, 1, 0, 3));
    }

    private static void cell() {
        limits(BAD, (x, a) -> x.cell(a[0], 0, 5), new int[] {1}, 0, 3);
        limits(-12, (x, a) -> x.cell(0, a[0], 5), new int[] {1}, 0, 3);
        limits(-12, (x, a) -> x.cell(1, a[0], 5), new int[] {1}, 0, 2);
        for (int i : new int[] {-1, 0, MAX}) {
            refused(-11, x -> x.cell(3, i, 5));
            refused(BAD, x -> x.cell(4, i, 5));
        }
        refused(-12, x -> x.sheet(3, 0, 0), x -> x.cell(3, 0, 5));
        refused(-12, x -> x.sheet(3, 0, 0), x -> x.cell(3, -1, 5));
    }

    /** What an item becomes, as far as a COST tells it (0: it is none of 1 .. 999). */
    private static int item(int sort, int v) {
        WayLeaves x = new WayLeaves();
        x.sheet(2, sort, 1);
        due(1, x.cell(2, 0, v));
        return x.costs(6, 2, sort, 0, 1) == 0 ? 0 : x.set(6, 2, 1);
    }

    private static void lowestBits() {
        int[] given = {1, 127, 128, 255, 256, 257, 383, 384, 999, 1000, 32767, 32768, 65535, 65536, 65537, 66535,
            66536, -1, -127, -128, -129, -255, -256, -257, -65535, -65536, -64537, MAX, MIN, MIN + 7};
        for (int v : given) {
            int[] want = {(byte) v, (short) v, v};
            for (int sort = 0; sort < 3; sort++) {
                due(want[sort] >= 1 && want[sort] <= 999 ? want[sort] : 0, item(sort, v));
            }
        }
    }

    private static void copy() {
        limits(BAD, (x, a) -> x.copy(a[0], 0, a[1], 0, 0), new int[] {1, 1}, 0, 3, 0, 3);
        refused(-11, x -> x.copy(3, 0, 0, 0, 0));
        refused(-11, x -> x.copy(0, 0, 3, 0, 0));
        refused(-11, x -> x.copy(3, 0, 3, 0, 0));
        refused(-11, x -> x.copy(3, -1, 0, -1, -1));
        refused(-13, x -> x.copy(0, 0, 1, 0, 0));
        refused(-13, x -> x.copy(1, 0, 2, 0, 1));
        refused(-13, x -> x.copy(2, -1, 0, 9, -1));
        refused(BAD, x -> x.copy(3, 0, 4, 0, 0));
        refused(BAD, x -> x.copy(-1, 0, 3, 0, 0));
        // SHEET 0 has 4 items, SHEET 3 (of like sort) 2.
        limitsOfCopy(0, 3, 4, 2);
        limitsOfCopy(3, 0, 2, 4);
        limitsOfCopy(0, 0, 4, 4);
    }

    private static void limitsOfCopy(int sheet, int other, int size, int otherSize) {
        int[] numbers = {MIN, -2, -1, 0, 1, 2, 3, 4, 5, MAX};
        for (int i : numbers) {
            for (int j : numbers) {
                for (int n : numbers) {
                    boolean good = i >= 0 && j >= 0 && n >= 0 && (long) i + n <= size && (long) j + n <= otherSize;
                    WayLeaves x = new WayLeaves();
                    x.sheet(0, 0, 4);
                    x.sheet(3, 0, 2);
                    due(good ? n : -12, x.copy(sheet, i, other, j, n));
                }
            }
        }
        refused(-12, x -> x.sheet(3, 0, 2), x -> x.copy(sheet, 0, other, 0, -1));
        refused(-12, x -> x.sheet(3, 0, 2), x -> x.copy(sheet, size - 1, other, 0, 2));
        refused(-12, x -> x.sheet(3, 0, 2), x -> x.copy(sheet, 0, other, otherSize - 1, 2));
        refused(-12, x -> x.sheet(3, 0, 2), x -> x.copy(sheet, -1, other, 0, 1));
        refused(-12, x -> x.sheet(3, 0, 2), x -> x.copy(sheet, 0, other, -1, 1));
    }

    private static void itemsAre(WayLeaves x, int sheet, int sort, int... items) {
        due(items.length, x.costs(0, sheet, sort, 0, items.length));
        for (int i = 0; i < items.length; i++) due(items[i], x.set(i, 2, 10));
        due(-12, x.costs(0, sheet, sort, items.length, 1));
    }

    private static WayLeaves oneToForty() {
        WayLeaves x = new WayLeaves();
        x.sheet(1, 1, 40);
        x.sheet(2, 1, 40);
        for (int i = 0; i < 40; i++) x.cell(1, i, 101 + i);
        return x;
    }

    private static void copyAsTheyWere() {
        // Onto its own items, up and down: as they were.
        WayLeaves x = world();
        due(3, x.copy(0, 0, 0, 1, 3));
        itemsAre(x, 0, 0, 11, 11, 12, 13);
        due(3, x.copy(0, 1, 0, 0, 3));
        itemsAre(x, 0, 0, 11, 12, 13, 13);
        due(4, x.copy(0, 0, 0, 0, 4));
        itemsAre(x, 0, 0, 11, 12, 13, 13);
        due(0, x.copy(0, 4, 0, 0, 0));
        due(0, x.copy(0, 0, 0, 4, 0));
        itemsAre(x, 0, 0, 11, 12, 13, 13);
        // A whole row of 40.
        WayLeaves y = oneToForty();
        due(40, y.copy(1, 0, 2, 0, 40));
        due(40, y.costs(0, 2, 1, 0, 40));
        for (int i = 0; i < 40; i++) due(101 + i, y.set(i, 2, 10));
        due(39, y.copy(1, 0, 1, 1, 39));
        due(40, y.costs(0, 1, 1, 0, 40));
        for (int i = 0; i < 40; i++) due(i == 0 ? 101 : 100 + i, y.set(i, 2, 10));
    }

    private static void costs() {
        int[] good = {8, 1, 1, 2};
        limits(BAD, (x, a) -> x.costs(a[0], a[1], a[2], 0, a[3]), good, 0, 47, 0, 3, 0, 2, 0, 40);
        for (int n : new int[] {0, 1, 40}) {
            refused(-11, x -> x.costs(8, 3, 0, 0, n));
            refused(-11, x -> x.costs(8, 3, 2, -1, n));
            refused(-13, x -> x.costs(8, 0, 1, 0, n));
            refused(-13, x -> x.costs(8, 1, 0, -1, n));
            refused(-13, x -> x.costs(8, 2, 0, 99, n));
        }
        refused(BAD, x -> x.costs(8, 3, 3, 0, 0));
        refused(BAD, x -> x.costs(8, 3, 0, 0, 41));
        refused(BAD, x -> x.costs(8, 0, 1, 0, -1));
        refused(-12, x -> x.costs(8, 0, 0, -1, 1));
        refused(-12, x -> x.costs(8, 0, 0, 4, 1));
        refused(-12, x -> x.costs(8, 0, 0, MIN, 40));
        refused(-12, x -> x.costs(8, 0, 0, MAX, 40));
        refused(-12, x -> x.sheet(3, 0, 0), x -> x.costs(8, 3, 0, 0, 1));
        due(0, world().costs(8, 0, 0, 0, 0));
        due(0, world().costs(8, 0, 0, 4, 0));
        due(0, world().costs(8, 0, 0, 99, 0));
    }

    private static void costsLeftOut() {
        WayLeaves x = new WayLeaves();
        x.sheet(3, 2, 8);
        int[] items = {1, 0, 999, 1000, -1, MIN, MAX, 2};
        for (int i = 0; i < 8; i++) x.cell(3, i, items[i]);
        due(3, x.costs(20, 3, 2, 0, 8));
        int[] want = {1, 10, 999, 10, 10, 10, 10, 2};
        for (int i = 0; i < 8; i++) due(want[i], x.set(20 + i, 2, 10));
        // Of no PLOT: behind the last one.
        due(1, x.costs(46, 3, 2, 0, 8));
        due(1, x.set(46, 2, 10));
        due(10, x.set(47, 2, 10));
        due(1, x.costs(47, 3, 2, 2, 6));
        due(999, x.set(47, 2, 10));
        due(0, x.costs(47, 3, 2, 3, 5));
        due(10, x.set(47, 2, 10));
        // 40 of them at once.
        WayLeaves y = oneToForty();
        due(40, y.costs(8, 1, 1, 0, 40));
        due(101, y.set(8, 2, 10));
        due(140, y.set(47, 2, 10));
        due(39, y.costs(9, 1, 1, 0, 40));
        due(1, y.costs(47, 1, 1, 0, 40));
    }

    private static void costsAhead() {
        // A place outside: -12, and what stood ahead was told, also one by one and of all of them.
        for (int from = 0; from < 4; from++) {
            WayLeaves x = world();
            due(4 - from, x.costs(0, 0, 0, from, 4 - from));
            for (int i = 0; i < 5; i++) due(i < 4 - from ? 11 + from + i : 10, x.set(i, 2, 10));
            due(-12, x.costs(0, 0, 0, from, 5 - from));
            for (int i = 0; i < 5; i++) due(i < 4 - from ? 11 + from + i : 10, x.set(i, 2, 10));
            due(-12, x.costs(0, 0, 0, from, 40));
            for (int i = 0; i < 5; i++) due(i < 4 - from ? 11 + from + i : 10, x.set(i, 2, 10));
        }
        WayLeaves y = oneToForty();
        due(-12, y.costs(0, 1, 1, 1, 40));
        for (int i = 0; i < 39; i++) due(102 + i, y.set(i, 2, 10));
        due(10, y.set(39, 2, 10));
    }

    private static void taken() {
        limits(BAD, (x, a) -> x.taken(0, a[0]), new int[] {1}, 0, 5);
        limits(-11, (x, a) -> x.taken(a[0], 0), new int[] {1}, 0, 7);
        due(-11, new WayLeaves().taken(0, 0));
        refused(BAD, x -> x.taken(8, 6));
        refused(BAD, x -> x.taken(-1, -1));
        for (int k : new int[] {0, 5}) refused(-11, x -> x.taken(8, k));
        for (int k = 1; k < 6; k++) {
            int kind = k;
            refused(-13, x -> x.taken(0, kind));
        }
        refused(-13, x -> x.taken(1, 3));
        refused(-13, x -> x.taken(2, 2));
        refused(-13, x -> x.taken(3, 5));
        refused(-13, x -> x.taken(7, 4));
        // For one of its own KIND, and of each that it is under, also by others between.
        String[] above = {"0", "10", "20", "310", "420", "520"};
        WayLeaves x = withSpans(8, 9);
        for (int kind = 0; kind < 6; kind++) {
            due(kind, x.leave(kind, 1, 0, 0, -1));
            for (int k = 0; k < 6; k++) due(above[kind].indexOf('0' + k) < 0 ? -13 : 1, x.taken(kind, k));
        }
    }

    public static void main(String[] args) {
        check("promise 29", WayBoundariesTest::hold);
        check("promise 30", WayBoundariesTest::way);
        check("terms 5, beside", WayBoundariesTest::besides);
        check("terms 5, THE WAY", WayBoundariesTest::cheapestFewestLeast);
        check("terms 5, BARS", WayBoundariesTest::bars);
        check("promise 31", WayBoundariesTest::couldAsk);
        check("promise 32", WayBoundariesTest::asking);
        check("promise 33", WayBoundariesTest::toAskBits);
        check("terms 5, LATE", WayBoundariesTest::lateByADay);
        check("terms 5, THE ORDER", WayBoundariesTest::askOrder);
        check("promise 34", WayBoundariesTest::count);
        check("promise 34, FULL", WayBoundariesTest::countOfFull);
        check("promise 35", WayBoundariesTest::sheet);
        check("promise 35, all 0", WayBoundariesTest::sheetAllZero);
        check("promise 36", WayBoundariesTest::cell);
        check("promise 36, bits", WayBoundariesTest::lowestBits);
        check("promise 37", WayBoundariesTest::copy);
        check("promise 37, as they were", WayBoundariesTest::copyAsTheyWere);
        check("promise 38", WayBoundariesTest::costs);
        check("promise 38, left out", WayBoundariesTest::costsLeftOut);
        check("promise 38, -12", WayBoundariesTest::costsAhead);
        check("promise 39", WayBoundariesTest::taken);
        endOfTest();
    }
}
