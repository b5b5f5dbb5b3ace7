/** Each promise by plain runs of calls: ordinary inputs, edges, and each refusal that it names. */
public final class PromisesTest extends Checks {
    private static void aNewObject() {
        WayLeaves x = new WayLeaves();
        for (int what = 0; what < 12; what++) due(what == 7 ? 1 : 0, x.count(what));
        for (int plot = 0; plot < 48; plot++) {
            due(0, x.owner(plot, 0));
            due(0, x.owner(plot, 9999));
            due(0, x.high(plot));
            due(10, x.way(plot, plot, -1));
        }
        due(0, x.set(0, 0, 0));
        due(0, x.set(0, 1, 0));
        due(10, x.set(0, 2, 10));
        due(0, x.set(0, 3, 0));
        due(0, x.heir(1, 2, 0));
        due(0, x.hold(9, 0));
        due(0, x.doubled());
        for (int sheet = 0; sheet < 4; sheet++) due(-11, x.cell(sheet, 0, 0));
    }

    private static void pass() {
        WayLeaves x = new WayLeaves();
        due(BAD, x.pass(0));
        due(BAD, x.pass(-1));
        due(BAD, x.pass(2001));
        due(BAD, x.pass(MAX));
        due(0, x.count(0));
        for (int i = 1; i <= 4; i++) due(2000 * i, x.pass(2000));
        due(FULL, x.pass(2000));
        due(8000, x.count(0));
        due(9998, x.pass(1998));
        due(FULL, x.pass(2));
        due(BAD, x.pass(2001));
        due(9999, x.pass(1));
        due(FULL, x.pass(1));
    }

    private static void sellAndOwner() {
        WayLeaves x = new WayLeaves();
        due(BAD, x.sell(-1, 0, 0));
        due(BAD, x.sell(48, 0, 0));
        due(BAD, x.sell(0, -1, 0));
        due(BAD, x.sell(0, 10, 0));
        due(BAD, x.sell(0, 0, -1));
        due(BAD, x.sell(0, 0, 10000));
        due(0, x.count(1));
        due(1, x.sell(47, 9, 100));
        due(0, x.owner(47, 99));
        due(9, x.owner(47, 100));
        due(9, x.owner(47, 9999));
        due(0, x.owner(46, 100));
        due(2, x.sell(47, 3, 50));
        due(3, x.owner(47, 50));
        due(9, x.owner(47, 100));
        due(3, x.sell(47, 4, 100));
        due(4, x.owner(47, 100));
        due(4, x.sell(47, 5, 50));
        due(5, x.owner(47, 99));
        due(4, x.owner(47, 100));
        due(0, x.owner(47, 49));
        due(BAD, x.owner(-1, 0));
        due(BAD, x.owner(48, 0));
        due(BAD, x.owner(0, -1));
        due(BAD, x.owner(0, 10000));
        x.pass(10);
        due(BAD, x.sell(0, 0, 9));
        due(5, x.sell(0, 1, 10));
        due(6, x.sell(0, 2, 9999));
        due(2, x.owner(0, 9999));
        for (int i = 7; i <= 40; i++) due(i, x.sell(1, 1, 10));
        due(FULL, x.sell(1, 1, 10));
        due(BAD, x.sell(48, 1, 10));
        due(40, x.count(1));
    }

    private static void heir() {
        WayLeaves x = withSpans(8);
        due(BAD, x.heir(-1, 0, 1));
        due(BAD, x.heir(10, 0, 1));
        due(BAD, x.heir(0, -1, 1));
        due(BAD, x.heir(0, 10, 1));
        due(BAD, x.heir(3, 3, 1));
        due(BAD, x.heir(0, 1, -1));
        due(BAD, x.heir(0, 1, 100));
        due(0, x.heir(0, 1, 99));
        due(99, x.heir(0, 1, 2));
        due(2, x.heir(0, 1, 3));
        due(0, x.heir(1, 0, 5));
        // 100 pence a YEAR of OWNER 0: 3 SHARES of 1, 3 of 4, 1 of 7.
        x.leave(0, 0, 1500, 0, -1);
        x.heir(0, 4, 3);
        x.heir(0, 7, 1);
        due(0, x.yearly(0, 0));
        due(42 + 2, x.yearly(1, 0));
        due(42, x.yearly(4, 0));
        due(14, x.yearly(7, 0));
        x.heir(0, 1, 0);
        due(75, x.yearly(4, 0));
        due(0, x.yearly(1, 0));
        x.heir(0, 4, 0);
        x.heir(0, 7, 0);
        due(100, x.yearly(0, 0));
        // OWNER 0 as an heir, the least one.
        x.heir(1, 0, 0);
        x.sell(8, 6, 0);
        x.heir(6, 0, 1);
        x.heir(6, 9, 2);
        due(34, x.yearly(0, 0));
        due(66, x.yearly(9, 0));
    }

    private static void set() {
        WayLeaves x = withSpans(8);
        int[] least = {0, 0, 1, 0};
        int[] most = {60, 9999, 999, 1};
        for (int what = 0; what < 4; what++) {
            due(BAD, x.set(-1, what, 1));
            due(BAD, x.set(48, what, 1));
            due(BAD, x.set(5, what, least[what] - 1));
            due(BAD, x.set(5, what, most[what] + 1));
            due(what == 2 ? 10 : 0, x.set(5, what, most[what]));
            due(most[what], x.set(5, what, least[what]));
            due(least[what], x.set(5, what, least[what]));
        }
        due(BAD, x.set(0, -1, 0));
        due(BAD, x.set(0, 4, 0));
        due(29, x.spanTold(0, 4));
        x.set(8, 0, 20);
        due(9, x.spanTold(0, 4));
        x.set(8, 1, 77);
        due(1077, x.says(0, 1));
        x.set(8, 2, 33);
        due(33, x.way(8, 8, -1));
        x.set(8, 3, 1);
        due(NONE, x.way(8, 8, -1));
        x.set(8, 3, 0);
        due(33, x.way(8, 8, -1));
    }

    private static void treesAndHigh() {
        WayLeaves x = withSpans(8);
        due(BAD, x.trees(-1, 0, 0));
        due(BAD, x.trees(48, 0, 0));
        due(BAD, x.trees(0, -1, 0));
        due(BAD, x.trees(0, 41, 0));
        due(BAD, x.trees(0, 0, -1));
        due(BAD, x.trees(0, 0, 10));
        due(BAD, x.high(-1));
        due(BAD, x.high(48));
        due(0, x.trees(8, 40, 9));
        due(40, x.high(8));
        due(0, x.high(9));
        x.pass(364);
        due(40, x.high(8));
        x.pass(1);
        due(49, x.high(8));
        due(49, x.trees(8, 3, 2));
        x.pass(364);
        due(3, x.high(8));
        x.pass(366);
        due(7, x.high(8));
        due(29 - 7, x.spanTold(0, 4));
        x.set(8, 0, 7);
        due(29 - 7, x.spanTold(0, 4));
        x.set(8, 0, 8);
        due(29 - 8, x.spanTold(0, 4));
        due(7, x.trees(8, 0, 0));
        due(0, x.high(8));
    }

    private static void tower() {
        WayLeaves x = new WayLeaves();
        due(BAD, x.tower(-1, 40));
        due(BAD, x.tower(48, 40));
        due(BAD, x.tower(0, 9));
        due(BAD, x.tower(0, 91));
        due(0, x.tower(0, 10));
        due(1, x.tower(0, 90));
        for (int i = 2; i < 16; i++) due(i, x.tower(47, 50));
        due(FULL, x.tower(47, 50));
        due(BAD, x.tower(47, 9));
        due(16, x.count(2));
        x.span(1, 15, 0, 100);
        due(49, x.spanTold(0, 3));
        x.span(1, 0, 0, 100);
        due(9, x.spanTold(1, 3));
    }

    private static void span() {
        WayLeaves x = new WayLeaves();
        due(BAD, x.span(0, 1, 0, 100));
        x.tower(0, 40);
        due(BAD, x.span(0, 1, 0, 100));
        x.tower(0, 40);
        due(BAD, x.span(-1, 1, 0, 100));
        due(BAD, x.span(0, -1, 0, 100));
        due(BAD, x.span(0, 2, 0, 100));
        due(BAD, x.span(2, 0, 0, 100));
        due(BAD, x.span(1, 1, 0, 100));
        due(BAD, x.span(0, 1, -1, 100));
        due(BAD, x.span(0, 1, 48, 100));
        due(BAD, x.span(0, 1, 0, 49));
        due(BAD, x.span(0, 1, 0, 601));
        due(0, x.count(3));
        due(0, x.span(0, 1, 0, 50));
        due(1, x.span(1, 0, 47, 600));
        for (int i = 2; i < 16; i++) due(i, x.span(0, 1, 0, 100));
        due(FULL, x.span(0, 1, 0, 100));
        due(BAD, x.span(0, 0, 0, 100));
        due(16, x.count(3));
    }

    private static void heat() {
        WayLeaves x = withSpans(8);
        due(-100, x.heat(-1, 20));
        due(-100, x.heat(1, 20));
        due(-100, x.heat(0, -21));
        due(-100, x.heat(0, 91));
        due(20, x.heat(0, -20));
        due(-20, x.heat(0, 90));
        due(90, x.heat(0, 91 - 1));
    }

    private static void spanTold() {
        WayLeaves x = withSpans();
        due(NO, x.spanTold(0, 0));
        x.span(0, 1, 8, 600);
        due(NO, x.spanTold(-1, 0));
        due(NO, x.spanTold(1, 0));
        due(NO, x.spanTold(0, -1));
        due(NO, x.spanTold(0, 8));
        due(8, x.spanTold(0, 0));
        due(600, x.spanTold(0, 1));
        due(36, x.spanTold(0, 2));
        due(-6, x.spanTold(0, 3));
        due(-6, x.spanTold(0, 4));
        due(1, x.spanTold(0, 5));
        due(0, x.spanTold(0, 6));
        due(1, x.spanTold(0, 7));
        x.span(0, 1, 10, 333);
        x.span(0, 1, 10, 500);
        x.heat(1, 23);
        due(11, x.spanTold(1, 2));
        x.heat(2, 90);
        due(25 + 35, x.spanTold(2, 2));
        x = withSpans(8);
        // Both quotients are cut toward 0, each for itself.
        x.span(0, 1, 9, 199);
        due(3, x.spanTold(1, 2));
        x.heat(1, 16);
        due(3, x.spanTold(1, 2));
        x.heat(1, 14);
        due(2, x.spanTold(1, 2));
        x.heat(1, 25);
        due(3, x.spanTold(1, 2));
        x.heat(1, 26);
        due(4, x.spanTold(1, 2));
        x.heat(1, -20);
        due(0, x.spanTold(1, 2));
        due(30, x.spanTold(1, 3));
        x.set(9, 0, 24);
        due(6, x.spanTold(1, 4));
        due(0, x.spanTold(1, 5));
        x.set(9, 0, 25);
        due(5, x.spanTold(1, 4));
        due(1, x.spanTold(1, 5));
    }

    private static void ends() {
        WayLeaves x = withSpans(8, 9);
        due(0, x.spanTold(0, 6));
        x.leave(1, 0, 0, 0, -1);
        due(9999, x.spanTold(0, 6));
        x.leave(1, 0, 0, 9998, -1);
        due(NONE, x.spanTold(0, 6));
        due(0, x.spanTold(1, 6));
        // A gap that a later LEAVE fills, and one that it doesn't.
        x.leave(0, 1, 0, 0, -1);
        x.leave(0, 1, 0, 365, -1);
        due(730, x.spanTold(1, 6));
        x.leave(0, 1, 0, 731, -1);
        due(730, x.spanTold(1, 6));
        x.pass(731);
        due(731 + 365, x.spanTold(1, 6));
        x.sell(9, 3, 900);
        due(900, x.spanTold(1, 6));
        x.leave(4, 1, 0, 850, -1);
        due(850 + 1825, x.spanTold(1, 6));
        x.sell(9, 0, 950);
        due(850 + 1825, x.spanTold(1, 6));
        // UNDONE ahead of the end of what HANGS on it.
        WayLeaves y = withSpans(8);
        y.leave(4, 0, 0, 0, -1);
        y.leave(0, 0, 0, 0, 0);
        y.appeal(0);
        due(1825, y.spanTold(0, 6));
        y.undo(0, 400);
        due(400, y.spanTold(0, 6));
        y.leave(0, 0, 0, 399, -1);
        due(399 + 365, y.spanTold(0, 6));
    }

    private static void allFull() {
        WayLeaves x = withSpans(8);
        for (int i = 0; i < 40; i++) due(i + 1, x.sell(8, i % 10, 10 * i));
        for (int i = 0; i < 24; i++) due(i, x.leave(i == 0 ? 4 : 1, 0, 1500, 16 * i, i - 1));
        due(9, x.owner(8, 9999));
        due(2, x.has(0, 15));
        due(1, x.has(0, 16));
        due(1825, x.spanTold(0, 6));
        due(100, x.yearly(9, 399));
        due(1, x.leaveTold(0, 6));
        due(0, x.leaveTold(23, 6));
        due(1, x.appeal(0));
        due(23, x.undo(0, 200));
        due(200, x.spanTold(0, 6));
        due(0, x.yearly(9, 399));
        // Each LEAVE ends with a SALE, and the next one begins with it.
        WayLeaves y = withSpans(8);
        for (int i = 0; i < 24; i++) y.sell(8, i % 9, 10 * i);
        for (int i = 0; i < 24; i++) y.leave(0, 0, 0, 10 * i, -1);
        due(23 * 10 + 365, y.spanTold(0, 6));
        y.sell(8, 9, 235);
        due(235, y.spanTold(0, 6));
    }

    private static void leave() {
        WayLeaves x = withSpans(8, 9);
        due(BAD, x.leave(-1, 0, 0, 0, -1));
        due(BAD, x.leave(6, 0, 0, 0, -1));
        due(BAD, x.leave(0, -1, 0, 0, -1));
        due(BAD, x.leave(0, 2, 0, 0, -1));
        due(BAD, x.leave(0, 0, -1, 0, -1));
        due(BAD, x.leave(0, 0, 100000, 0, -1));
        due(BAD, x.leave(0, 0, 0, -1, -1));
        due(BAD, x.leave(0, 0, 0, 10000, -1));
        due(BAD, x.leave(0, 0, 0, 0, 0));
        due(BAD, x.leave(0, 0, 0, 0, -2));
        due(0, x.count(4));
        due(0, x.leave(0, 0, 99999, 0, -1));
        due(BAD, x.leave(0, 1, 0, 0, 0));
        due(BAD, x.leave(0, 0, 0, 0, 1));
        due(1, x.leave(1, 1, 0, 9999, -1));
        due(2, x.leave(2, 1, 0, 0, 1));
        x.pass(5);
        due(BAD, x.leave(0, 0, 0, 4, -1));
        for (int i = 3; i < 24; i++) due(i, x.leave(i % 6, 0, i, 5, 0));
        due(FULL, x.leave(0, 0, 0, 5, -1));
        due(BAD, x.leave(0, 0, 0, 5, 24));
        due(BAD, x.leave(0, 0, 0, 4, -1));
        due(24, x.count(4));
    }

    private static void leaveTold() {
        WayLeaves x = withSpans(8, 9);
        due(BAD, x.leaveTold(0, 0));
        int[] lasts = {365, 9999, 5475, 9999, 1825, 1825};
        int[] binds = {0, 1, 0, 1, 1, 0};
        int[] yearly = {133, 0, 266, 19, 133, 266};
        for (int kind = 0; kind < 6; kind++) {
            due(kind, x.leave(kind, kind % 2, 1999, 10 * kind, -1));
            due(kind, x.leaveTold(kind, 0));
            due(kind % 2, x.leaveTold(kind, 1));
            due(10 * kind, x.leaveTold(kind, 2));
            due(lasts[kind], x.leaveTold(kind, 3));
            due(binds[kind], x.leaveTold(kind, 4));
            due(yearly[kind], x.leaveTold(kind, 5));
            due(kind == 0 ? 1 : 0, x.leaveTold(kind, 6));
            due(NONE, x.leaveTold(kind, 7));
            due(0, x.leaveTold(kind, 8));
            due(BAD, x.leaveTold(kind, -1));
            due(BAD, x.leaveTold(kind, 9));
        }
        due(BAD, x.leaveTold(-1, 0));
        due(BAD, x.leaveTold(6, 0));
        x.pass(50);
        for (int kind = 0; kind < 6; kind++) due(1, x.leaveTold(kind, 6));
        x.sell(8, 1, 50);
        x.sell(9, 1, 51);
        x.pass(1);
        for (int kind = 0; kind < 6; kind++) due(binds[kind], x.leaveTold(kind, 6));
        x.appeal(4);
        due(1, x.leaveTold(4, 8));
        x.undo(4, 52);
        due(52, x.leaveTold(4, 7));
        due(1, x.leaveTold(4, 6));
        x.pass(1);
        due(0, x.leaveTold(4, 6));
    }

    private static void renew() {
        WayLeaves x = withSpans(8);
        due(BAD, x.renew(0));
        int[] lasts = {365, 9999, 5475, 9999, 1825, 1825};
        for (int kind = 0; kind < 6; kind++) x.leave(kind, 0, 100, 0, -1);
        due(BAD, x.renew(-1));
        due(BAD, x.renew(6));
        for (int kind = 0; kind < 6; kind++) {
            for (int n = 1; n <= 5; n++) {
                due(kind == 4 ? -13 : n, x.renew(kind));
                due(kind == 4 ? 1825 : lasts[kind] * (n + 1), x.leaveTold(kind, 3));
            }
            due(kind == 4 ? -13 : STATE, x.renew(kind));
        }
        due(lasts[0] * 6, x.leaveTold(0, 3));
        WayLeaves y = withSpans(8);
        y.leave(0, 0, 0, 0, -1);
        y.pass(500);
        due(0, y.has(0, 500));
        y.renew(0);
        due(1, y.has(0, 729));
        due(0, y.has(0, 730));
    }

    private static void appeal() {
        WayLeaves x = withSpans(8);
        due(BAD, x.appeal(0));
        x.leave(2, 0, 0, 0, -1);
        x.leave(4, 0, 0, 10, -1);
        x.leave(4, 0, 0, 9, -1);
        due(BAD, x.appeal(-1));
        due(BAD, x.appeal(3));
        due(-13, x.appeal(0));
        x.pass(9);
        due(STATE, x.appeal(1));
        due(0, x.leaveTold(1, 8));
        x.pass(43);
        due(STATE, x.appeal(2));
        due(0, x.leaveTold(2, 8));
        due(1, x.appeal(1));
        due(STATE, x.appeal(1));
        due(1, x.leaveTold(1, 8));
        x.leave(4, 0, 0, 52, -1);
        due(1, x.appeal(3));
    }

    private static void undo() {
        WayLeaves x = withSpans(8);
        due(BAD, x.undo(0, 0));
        x.leave(4, 0, 0, 10, -1);
        x.leave(0, 0, 0, 10, 0);
        x.leave(5, 0, 0, 10, 1);
        x.leave(4, 0, 0, 10, 2);
        x.leave(1, 0, 0, 5000, -1);
        due(BAD, x.undo(-1, 20));
        due(BAD, x.undo(5, 20));
        due(BAD, x.undo(0, 9));
        due(BAD, x.undo(0, -1));
        due(BAD, x.undo(0, 10000));
        due(BAD, x.undo(1, 9));
        due(-13, x.undo(1, 10));
        due(STATE, x.undo(0, 10));
        x.pass(10);
        x.appeal(0);
        x.appeal(3);
        due(1, x.has(0, 100));
        due(3, x.undo(0, 10));
        due(STATE, x.undo(0, 10));
        due(BAD, x.undo(0, 9));
        due(0, x.has(0, 10));
        for (int i = 0; i < 4; i++) due(0, x.leaveTold(i, 6));
        due(0, x.undo(3, 9999));
        due(9999, x.leaveTold(3, 7));
        // A DAY that has gone by is no hindrance.
        x.leave(4, 0, 0, 10, -1);
        x.pass(20);
        due(1, x.appeal(5));
        due(2, x.has(0, 15));
        due(0, x.undo(5, 15));
        due(2, x.has(0, 14));
        due(0, x.has(0, 15));
    }

    private static void has() {
        WayLeaves x = withSpans(8, 8);
        due(BAD, x.has(-1, 0));
        due(BAD, x.has(2, 0));
        due(BAD, x.has(0, -1));
        due(BAD, x.has(0, 10000));
        x.leave(4, 0, 0, 5, -1);
        due(0, x.has(0, 4));
        due(2, x.has(0, 5));
        due(2, x.has(0, 5 + 1824));
        due(0, x.has(0, 5 + 1825));
        due(0, x.has(1, 5));
        x.leave(2, 0, 0, 100, -1);
        due(2, x.has(0, 99));
        due(1, x.has(0, 100));
        x.sell(8, 2, 200);
        due(1, x.has(0, 199));
        due(2, x.has(0, 200));
        x.sell(8, 0, 300);
        due(2, x.has(0, 299));
        due(1, x.has(0, 300));
        // A SALE that is told later for a DAY ahead of the beginning changes whose it was then.
        x.sell(8, 3, 100);
        due(1, x.has(0, 150));
        due(2, x.has(0, 300));
        // What HANGS is in force only with what it HANGS on.
        x.leave(0, 1, 0, 0, -1);
        x.leave(1, 1, 0, 0, 2);
        x.leave(3, 1, 0, 0, 3);
        due(1, x.has(1, 99));
        due(0, x.has(1, 100));
    }

    private static void yearly() {
        WayLeaves x = withSpans(8, 9);
        due(NO, x.yearly(-1, 0));
        due(NO, x.yearly(10, 0));
        due(NO, x.yearly(0, -1));
        due(NO, x.yearly(0, 10000));
        due(0, x.yearly(0, 0));
        x.leave(0, 0, 1500, 0, -1);
        x.leave(3, 0, 1500, 5, -1);
        x.leave(4, 1, 1514, 0, -1);
        x.sell(9, 2, 100);
        due(200, x.yearly(0, 0));
        due(215, x.yearly(0, 5));
        due(115, x.yearly(0, 100));
        due(100, x.yearly(2, 100));
        due(15, x.yearly(0, 365));
        x.sell(8, 1, 50);
        due(15, x.yearly(1, 50));
        due(100, x.yearly(0, 50));
        // OWNER 2's heirs: what 3 gets so is not parted again, but what is 3's own is.
        x.sell(8, 3, 60);
        x.heir(2, 3, 2);
        x.heir(2, 5, 1);
        x.heir(3, 6, 1);
        due(67, x.yearly(3, 200));
        due(33, x.yearly(5, 200));
        due(15, x.yearly(6, 200));
        due(0, x.yearly(2, 200));
    }

    private static void partsOfAllTogether() {
        // 3 and 3 pence: each alone would be cut otherwise than both together.
        WayLeaves x = withSpans(8, 9);
        x.leave(0, 0, 45, 0, -1);
        x.leave(0, 1, 45, 0, -1);
        x.heir(0, 8, 1);
        x.heir(0, 9, 1);
        due(3, x.yearly(8, 0));
        due(3, x.yearly(9, 0));
        x.claim(0, 0, 7);
        due(0, x.due(8));
        x.pass(365);
        x.claim(0, 1, 7);
        due(7, x.due(8));
        due(7, x.due(9));
        due(0, x.due(0));
    }

    private static void feed() {
        WayLeaves x = new WayLeaves();
        due(BAD, x.feed(0, 0));
        due(BAD, x.feed(9, 0));
        due(BAD, x.feed(-1, 0));
        due(BAD, x.feed(MIN, 0));
        due(0, x.count(8));
        due(1, x.feed(1, 0x20));
        due(9, x.feed(8, 0x2020202020202020L));
        for (int i = 2; i < 20; i++) due(8 * i + 1, x.feed(8, 0x2020202020202020L));
        due(153, x.count(8));
        due(FULL, x.feed(8, 0));
        due(BAD, x.feed(9, 0));
        due(153, x.count(8));
        due(160, x.feed(7, 0x2020202020202020L));
        due(FULL, x.feed(1, 0));
        due(-260, x.text());
        due(0, x.count(8));
        // The lowest byte comes first, and bytes above those told do not count.
        due(4, x.feed(4, 0x5a5a5a5a73796170L));
        due(7, x.feed(3, 0xffffffffff3b3120L));
        due(8, x.feed(1, -1L));
        due(-107, x.text());
    }

    private static void text() {
        WayLeaves x = withSpans(8);
        due(-100, x.text());
        due(1, text(x, "pays 1;sum 2;"));
        due(0, x.count(8));
        due(-100, x.text());
        due(-105, text(x, "pays ;sum 2;"));
        due(0, x.count(8));
        due(2, text(x, " \n pays\n1 ; sum 2 ; \n"));
        due(3, text(x, "pays near<6;sum 10*span+worth;"));
        due(4, text(x, "pays(1);sum(2);"));
        due(5, x.count(7));
        due(5, text(x, "pays 0;sum 9999;"));
        due(6, x.count(7));
        feed(x, "pays");
        due(FULL, x.text());
        due(4, x.count(8));
    }

    private static void longTexts() {
        due(0, fault(";".repeat(160)));
        due(0, fault("(".repeat(160)));
        due(0, fault("a".repeat(160)));
        due(0, fault("1".repeat(160)));
        due(160, fault("pays 1" + "+1".repeat(77)));
        String s = "pays 1;sum 1" + "+1".repeat(73);
        WayLeaves x = withSpans(8);
        due(159, feed(x, s + ";"));
        due(1, x.text());
        x.force(1);
        due(74, x.says(0, 1));
        due(1, x.says(0, 0));
        due(74, sum("1" + "+1".repeat(73)));
    }

    private static void faults() {
        due(0, fault(""));
        due(2, fault("  "));
        due(0, fault("sum 1;pays 1;"));
        due(0, fault("1"));
        due(4, fault("pays"));
        due(6, fault("pays  "));
        due(0, fault("paysnear<6;sum 1;"));
        due(0, fault("Pays 1;sum 1;"));
        due(6, fault("pays 1"));
        due(7, fault("pays 1 sum 1;"));
        due(7, fault("pays 1;"));
        due(7, fault("pays 1;1;"));
        due(12, fault("pays 1;sum 1"));
        due(14, fault("pays 1;sum 1 \n"));
        due(13, fault("pays 1;sum 1;;"));
        due(14, fault("pays 1;sum 1; pays"));
        due(14, fault("pays 1;sum 1; ?"));
        due(5, fault("pays sum;sum 1;"));
        due(5, fault("pays high;sum 1;"));
        due(5, fault("pays dayx;sum 1;"));
        due(5, fault("pays bay;sum 1;"));
        due(5, fault("pays da;sum 1;"));
        due(5, fault("pays dot 1;sum 1;"));
        due(0, fault("says 1;sum 1;"));
        due(5, fault("pays 12345;sum 1;"));
        due(5, fault("pays 00001;sum 1;"));
        due(-101, fault("pays 0001;sum 1;"));
        due(4, fault("pays\t1;sum 1;"));
        due(7, fault("pays 1 2;sum 1;"));
        due(9, fault("pays 1+1 1;sum 1;"));
        due(7, fault("pays 1+;sum 1;"));
        due(7, fault("pays 1+*1;sum 1;"));
        due(5, fault("pays +1;sum 1;"));
        due(6, fault("pays 1)sum 1;"));
        due(7, fault("pays (1;sum 1;"));
        due(6, fault("pays ();sum 1;"));
        due(8, fault("pays 1<2<3;sum 1;"));
        due(8, fault("pays 1=2<3;sum 1;"));
        due(12, fault("pays not 1<2=3;sum 1;"));
        due(7, fault("pays 1<not 1;sum 1;"));
        due(7, fault("pays 1+not 1;sum 1;"));
        due(6, fault("pays -not 1;sum 1;"));
        due(6, fault("pays 1/2;sum 1;"));
        due(6, fault("pays 1,2;sum 1;"));
        due(6, fault("pays 1:2;sum 1;"));
        due(6, fault("pays 1>2;sum 1;"));
        due(6, fault("pays 1'2;sum 1;"));
        due(6, fault("pays 1`2;sum 1;"));
        due(6, fault("pays 1{2;sum 1;"));
        due(6, fault("pays 1" + (char) 233 + ";sum 1;"));
        due(6, fault("pays 1" + (char) 13 + ";sum 1;"));
        due(6, fault("pays 1" + (char) 0 + ";sum 1;"));
    }

    private static void openOnes() {
        due(-101, fault("pays (((((1)))));sum 1;"));
        due(10, fault("pays ((((((1))))));sum 1;"));
        due(-101, fault("pays -----1;sum 1;"));
        due(10, fault("pays ------1;sum 1;"));
        due(-101, fault("pays not not not not not 1;sum 1;"));
        due(25, fault("pays not not not not not not 1;sum 1;"));
        due(-101, fault("pays not(-(-1));sum 1;"));
        due(-101, fault("pays not(-((1)));sum 1;"));
        due(-101, fault("pays not(-(not 1));sum 1;"));
        due(12, fault("pays not(-(--1));sum 1;"));
        due(12, fault("pays not(-(-(1)));sum 1;"));
        due(12, fault("pays not(-((-1)));sum 1;"));
        due(12, fault("pays not(-((not 1)));sum 1;"));
        due(15, fault("pays not(-(not -1));sum 1;"));
        // What has ended is no longer open: a ) , the ONE of a - , the NOT of a not.
        due(-101, fault("pays (((-1-(-1*(2)))));sum 1;"));
        due(-101, fault("pays ((((-1+-1*-1<-1))));sum 1;"));
        due(-101, fault("pays ((((not 1 and not 1 or not 1))));sum 1;"));
        due(-101, fault("pays ((((1)+(1)*(1)))) = (((((1)))));sum -----1;"));
        due(17, fault("pays ((((not 1<1+-1))));sum 1;"));
        due(-101, fault("pays ((((1-1-1-1-1-1-1))));sum 1;"));
    }

    private static void values() {
        due(7, sum("7"));
        due(14, sum("2+3*4"));
        due(20, sum("(2+3)*4"));
        due(-9, sum("1-2-8"));
        due(24, sum("2*3*4"));
        due(-6, sum("2*-3"));
        due(5, sum("--5"));
        due(-1, sum("-3+2"));
        due(1, sum("2<3"));
        due(0, sum("3<3"));
        due(0, sum("4<3"));
        due(1, sum("1+2=3"));
        due(0, sum("1+2=4"));
        due(1, sum("-1<0"));
        due(1, sum("not 0"));
        due(0, sum("not 7"));
        due(1, sum("not not 7"));
        due(0, sum("not 1<2"));
        due(1, sum("not 2<1"));
        due(1, sum("5 or 0"));
        due(1, sum("0 or 5"));
        due(0, sum("0 or 0"));
        due(1, sum("5 and 6"));
        due(0, sum("5 and 0"));
        due(0, sum("0 and 5"));
        due(1, sum("1 or 1 and 0"));
        due(0, sum("(1 or 1) and 0"));
        due(1, sum("not 1 or 1"));
        due(1, sum("0 or -5"));
        due(2, sum("(1<2)+(1=1)"));
        due(3, sum("(1 or 0)+2*(3 and 4)"));
        due(0, sum("1<2 and 2<1"));
        due(9999 * 9999, sum("9999*9999"));
        due(9999 * 9999 * 9999, sum("9999*9999*9999"));
        due(-(9999 * 9999 * 9999 * 9999), sum("-(9999*9999*9999*9999)"));
        due(12, sum("0012"));
    }

    private static void names() {
        WayLeaves x = withSpans(8);
        x.set(8, 0, 11);
        x.set(8, 1, 1234);
        x.trees(8, 12, 3);
        x.pass(400);
        due(400, sum(x, "day"));
        due(100, sum(x, "span"));
        due(14, sum(x, "near"));
        due(15, sum(x, "trees"));
        due(11, sum(x, "house"));
        WayLeaves y = withSpans(9, 8);
        y.set(8, 1, 1234);
        text(y, "pays worth;sum worth+1;");
        y.force(1);
        due(0, y.says(0, 0));
        due(1, y.says(0, 1));
        due(1234, y.says(1, 0));
        due(1235, y.says(1, 1));
    }

    private static void force() {
        WayLeaves x = withSpans(8);
        due(BAD, x.force(-1));
        due(BAD, x.force(1));
        due(0, x.force(0));
        text(x, "pays 3;sum 4;");
        due(0, x.count(9));
        due(1000, x.says(0, 1));
        due(0, x.force(1));
        due(1, x.count(9));
        due(4, x.says(0, 1));
        due(BAD, x.force(2));
        due(1, x.force(0));
        due(1000, x.says(0, 1));
    }

    private static void says() {
        WayLeaves x = withSpans(8);
        due(NO, x.says(-1, 0));
        due(NO, x.says(1, 0));
        due(NO, x.says(0, -1));
        due(NO, x.says(0, 2));
        due(0, x.says(0, 0));
        x.set(8, 0, 24);
        due(1, x.says(0, 0));
        x.set(8, 0, 23);
        due(0, x.says(0, 0));
        text(x, "pays -7;sum -9;");
        x.force(1);
        due(-7, x.says(0, 0));
        due(-9, x.says(0, 1));
    }

    private static void claimAndDoubled() {
        WayLeaves x = withSpans(8, 9);
        due(0, x.doubled());
        due(BAD, x.claim(-1, 0, 0));
        due(BAD, x.claim(10, 0, 0));
        due(BAD, x.claim(0, -1, 0));
        due(BAD, x.claim(0, 2, 0));
        due(BAD, x.claim(0, 0, -1));
        due(BAD, x.claim(0, 0, 100000));
        due(0, x.count(5));
        due(0, x.claim(1, 0, 99999));
        due(1, x.claim(2, 0, 0));
        due(2, x.claim(1, 1, 0));
        due(0, x.doubled());
        due(3, x.claim(1, 0, 5));
        due(8, x.doubled());
        due(4, x.claim(1, 1, 5));
        due(24, x.doubled());
        for (int i = 5; i < 30; i++) due(i, x.claim(1, 0, 5));
        due(FULL, x.claim(1, 0, 5));
        due(BAD, x.claim(10, 0, 5));
        due((1 << 30) - 1 - 7, x.doubled());
        due(1000, x.due(1));
        due(30, x.count(5));
    }

    private static void dueTo() {
        WayLeaves x = withSpans(8, 9, 10);
        due(NO, x.due(-1));
        due(NO, x.due(10));
        due(0, x.due(0));
        x.claim(1, 0, 300);
        x.claim(1, 1, 900);
        x.claim(1, 1, 5000);
        x.claim(2, 2, 50);
        due(1200, x.due(1));
        due(50, x.due(2));
        x.claim(1, 2, 2000);
        due(2200, x.due(1));
        x.set(10, 1, 500);
        due(2700, x.due(1));
        x.leave(1, 2, 0, 0, -1);
        due(1200, x.due(1));
        x = withSpans(8, 9, 10);
        x.claim(1, 0, 300);
        x.claim(1, 1, 2000);
        x.claim(1, 1, 5000);
        x.claim(2, 2, 50);
        x.set(9, 1, 500);
        due(1800, x.due(1));
        x.leave(0, 0, 0, 0, -1);
        due(1500, x.due(1));
        x.leave(4, 1, 0, 0, -1);
        due(1500, x.due(1));
        x.leave(2, 1, 0, 0, -1);
        due(0, x.due(1));
        x.pass(365);
        due(300, x.due(1));
        x.heir(1, 7, 1);
        x.heir(1, 4, 1);
        x.heir(1, 2, 1);
        due(0, x.due(1));
        due(100 + 50, x.due(2));
        due(100, x.due(7));
        text(x, "pays 0;sum 10-span;");
        x.force(1);
        due(0, x.due(2));
        text(x, "pays 0;sum 101;");
        x.force(2);
        due(33 + 2 + 50, x.due(2));
        due(33, x.due(4));
    }

    private static void lookAndBounds() {
        WayLeaves x = new WayLeaves();
        due(BAD, x.look(-1, 0, 0));
        due(BAD, x.look(48, 0, 0));
        due(BAD, x.look(0, -1, 0));
        due(BAD, x.look(0, 100000, 0));
        due(BAD, x.look(0, 0, -1));
        due(BAD, x.look(0, 0, 51));
        due(0, x.count(6));
        due(-5, x.bounds(-1, 0));
        due(-5, x.bounds(48, 0));
        due(-5, x.bounds(0, -1));
        due(-5, x.bounds(0, 2));
        due(-1, x.bounds(0, 0));
        due(-1, x.bounds(0, 1));
        due(1, x.look(0, 99999, 50));
        due(99999 - 49999, x.bounds(0, 0));
        due(99999 + 49999, x.bounds(0, 1));
        due(2, x.look(1, 199, 3));
        due(194, x.bounds(1, 0));
        due(204, x.bounds(1, 1));
        due(3, x.look(1, 204, 0));
        due(204, x.bounds(1, 0));
        due(204, x.bounds(1, 1));
        due(4, x.look(1, 203, 0));
        due(-2, x.bounds(1, 0));
        due(-2, x.bounds(1, 1));
        due(5, x.look(2, 0, 50));
        due(0, x.bounds(2, 0));
        due(0, x.bounds(2, 1));
        for (int i = 6; i <= 20; i++) due(i, x.look(47, 100 + i, 50));
        due(60, x.bounds(47, 0));
        due(159, x.bounds(47, 1));
        due(FULL, x.look(3, 1, 1));
        due(BAD, x.look(48, 1, 1));
        due(20, x.count(6));
    }

    private static void hold() {
        WayLeaves x = new WayLeaves();
        due(BAD, x.hold(-1, 0));
        due(BAD, x.hold(10, 0));
        due(BAD, x.hold(0, -1));
        due(BAD, x.hold(0, 10000));
        due(0, x.hold(0, 9999));
        due(10009, x.way(0, 0, -1));
        due(9999, x.hold(0, 7));
        due(17, x.way(0, 0, -1));
        due(7, x.hold(0, 0));
        x.hold(3, 5);
        x.sell(0, 3, 1);
        due(10, x.way(0, 0, -1));
        x.pass(1);
        due(15, x.way(0, 0, -1));
    }

    private static void wayIs(WayLeaves x, int from, int to, int cost, int... plots) {
        due(cost, x.way(from, to, -1));
        for (int i = 0; i < plots.length; i++) due(plots[i], x.way(from, to, i));
        due(NONE, x.way(from, to, plots.length));
    }

    private static void way() {
        WayLeaves x = new WayLeaves();
        due(BAD, x.way(-1, 0, -1));
        due(BAD, x.way(48, 0, -1));
        due(BAD, x.way(0, -1, -1));
        due(BAD, x.way(0, 48, -1));
        due(NONE, x.way(0, 0, -2));
        due(NONE, x.way(0, 0, MIN));
        due(NONE, x.way(0, 0, MAX));
        wayIs(x, 5, 5, 10, 5);
        wayIs(x, 0, 18, 50, 0, 1, 2, 10, 18);
        wayIs(x, 18, 0, 50, 18, 10, 2, 1, 0);
        wayIs(x, 17, 8, 30, 17, 9, 8);
        wayIs(x, 8, 0, 20, 8, 0);
        wayIs(x, 39, 47, 20, 39, 47);
        wayIs(x, 47, 46, 20, 47, 46);
        wayIs(x, 7, 8, 90, 7, 6, 5, 4, 3, 2, 1, 0, 8);
        wayIs(x, 0, 47, 130, 0, 1, 2, 3, 4, 5, 6, 7, 15, 23, 31, 39, 47);
        // Of like costs the fewest PLOTS.
        x.set(1, 2, 30);
        wayIs(x, 0, 2, 50, 0, 1, 2);
        x.set(1, 2, 31);
        wayIs(x, 0, 2, 50, 0, 8, 9, 10, 2);
        // A BAR can be no end either.
        x.set(1, 3, 1);
        due(NONE, x.way(1, 2, -1));
        due(NONE, x.way(2, 1, 0));
        x.set(8, 3, 1);
        due(NONE, x.way(0, 2, -1));
        due(NONE, x.way(0, 2, 0));
        wayIs(x, 0, 0, 10, 0);
    }

    private static void longWay() {
        WayLeaves x = new WayLeaves();
        for (int row = 1; row < 6; row += 2) {
            for (int column = 0; column < 8; column++) {
                if (column != (row % 4 == 1 ? 7 : 0)) x.set(8 * row + column, 3, 1);
            }
        }
        due(190, x.way(0, 32, -1));
        due(7, x.way(0, 32, 7));
        due(15, x.way(0, 32, 8));
        due(16, x.way(0, 32, 16));
        due(32, x.way(0, 32, 18));
        due(270, x.way(0, 47, -1));
        due(47, x.way(0, 47, 26));
        due(NONE, x.way(0, 40, -1));
    }

    private static void couldAsk() {
        WayLeaves x = new WayLeaves();
        due(BAD, x.couldAsk(-1, 0, 0));
        due(BAD, x.couldAsk(10, 0, 0));
        due(BAD, x.couldAsk(0, -1, 0));
        due(BAD, x.couldAsk(0, 48, 0));
        due(BAD, x.couldAsk(0, 0, -1));
        due(BAD, x.couldAsk(0, 0, 48));
        due(-1, x.couldAsk(0, 0, 2));
        due(0, x.couldAsk(1, 0, 2));
        x.sell(1, 1, 0);
        due(20, x.couldAsk(1, 0, 2));
        x.hold(1, 9999);
        due(20, x.couldAsk(1, 0, 2));
        x.hold(0, 5);
        due(5 * 15 - (15 + 10 + 15), x.couldAsk(1, 0, 2));
        x.hold(0, 0);
        due(-1, x.couldAsk(1, 1, 2));
        due(-1, x.couldAsk(1, 2, 1));
        x.sell(9, 2, 0);
        x.hold(2, 7);
        due(27, x.couldAsk(1, 0, 2));
        x.sell(8, 1, 5);
        due(27, x.couldAsk(1, 0, 2));
        x.pass(5);
        due(-1, x.couldAsk(1, 0, 2));
        x.set(2, 3, 1);
        due(-1, x.couldAsk(1, 0, 2));
    }

    private static void asking() {
        WayLeaves x = withSpans(8);
        due(BAD, x.asking(-1, 1));
        due(BAD, x.asking(1, 1));
        due(BAD, x.asking(0, 0));
        due(BAD, x.asking(0, 61));
        due(1, x.asking(0, 60));
        due(60, x.spanTold(0, 7));
        due(60, x.asking(0, 1));
        due(1, x.asking(0, 2));
    }

    private static void orderIs(WayLeaves x, int bits, int late, int... spans) {
        due(late, x.toAsk(bits, -1));
        for (int i = 0; i < spans.length; i++) due(spans[i], x.toAsk(bits, i));
        due(NONE, x.toAsk(bits, spans.length));
    }

    private static void toAsk() {
        WayLeaves x = withSpans();
        due(0, x.toAsk(0, -1));
        due(NONE, x.toAsk(0, 0));
        due(BAD, x.toAsk(1, -1));
        due(BAD, x.toAsk(MIN, -1));
        due(BAD, x.toAsk(-1, -1));
        for (int i = 0; i < 16; i++) x.span(0, 1, i, 100);
        due(BAD, x.toAsk(127, -1));
        due(BAD, x.toAsk(1 << 16, -1));
        due(BAD, x.toAsk(-1, 0));
        due(NONE, x.toAsk(3, -2));
        due(NONE, x.toAsk(3, MAX));
        orderIs(x, 63 << 10, 6, 10, 11, 12, 13, 14, 15);
        x.asking(0, 5);
        x.asking(1, 3);
        x.asking(2, 3);
        orderIs(x, 7, 3, 1, 2, 0);
        // SPAN 3 ends in 365 and takes 10: done in that DAY it is not LATE, a DAY behind it is.
        x.leave(0, 3, 0, 0, -1);
        x.asking(3, 10);
        x.pass(355);
        orderIs(x, 1 << 3, 0, 3);
        orderIs(x, 1 << 3 | 1, 1, 3, 0);
        x.pass(1);
        orderIs(x, 1 << 3, 1, 3);
        orderIs(x, 1 << 3 | 1, 2, 0, 3);
        // One that has LEAVE till the last DAY is never LATE.
        x.leave(1, 4, 0, 356, -1);
        x.pass(2000);
        due(NONE, x.spanTold(4, 6));
        orderIs(x, 1 << 4, 0, 4);
    }

    private static void count() {
        WayLeaves x = withSpans(8, 9, 10);
        due(BAD, x.count(-1));
        due(BAD, x.count(12));
        due(2, x.count(2));
        due(3, x.count(3));
        due(3, x.count(10));
        due(0, x.count(11));
        x.leave(0, 0, 0, 0, -1);
        x.leave(4, 1, 0, 1, -1);
        due(2, x.count(10));
        x.pass(1);
        due(1, x.count(10));
        x.pass(364);
        due(2, x.count(10));
        x.set(8, 0, 24);
        x.trees(9, 40, 0);
        due(2, x.count(11));
        x.sell(1, 1, 400);
        due(1, x.count(1));
        due(2, x.count(4));
        x.claim(0, 0, 0);
        due(1, x.count(5));
        x.look(0, 0, 0);
        due(1, x.count(6));
        x.feed(3, 0);
        due(3, x.count(8));
        due(365, x.count(0));
    }

    private static void sheet() {
        WayLeaves x = new WayLeaves();
        due(BAD, x.sheet(-1, 0, 1));
        due(BAD, x.sheet(4, 0, 1));
        due(BAD, x.sheet(0, -2, 1));
        due(BAD, x.sheet(0, 3, 1));
        due(BAD, x.sheet(0, 0, 41));
        due(BAD, x.sheet(0, 0, MAX));
        due(-14, x.sheet(0, 0, -1));
        due(-14, x.sheet(0, 2, MIN));
        due(BAD, x.sheet(4, -1, 0));
        due(BAD, x.sheet(4, 0, -1));
        due(BAD, x.sheet(0, 3, -1));
        due(1, x.sheet(0, -1, 41));
        due(1, x.sheet(0, -1, -1));
        due(-11, x.cell(0, 0, 0));
        due(1, x.sheet(0, 0, 0));
        due(-12, x.cell(0, 0, 0));
        due(1, x.sheet(3, 2, 40));
        due(1, x.cell(3, 39, 5));
        due(0, x.costs(0, 3, 2, 0, 39));
        due(1, x.costs(0, 3, 2, 39, 1));
        due(1, x.sheet(3, 2, 40));
        due(0, x.costs(0, 3, 2, 0, 40));
        due(BAD, x.sheet(3, 3, 1));
        due(-14, x.sheet(3, 0, -1));
        due(1, x.cell(3, 39, 5));
        due(1, x.sheet(3, -1, 5));
        due(-11, x.cell(3, 39, 5));
    }

    /** What an item is, told by the COST that PLOT 0 gets from it (0: it is none). */
    private static int cost(WayLeaves x, int sheet, int sort, int i) {
        x.set(0, 2, 10);
        return x.costs(0, sheet, sort, i, 1) == 1 ? x.set(0, 2, 10) : 0;
    }

    private static void cell() {
        WayLeaves x = new WayLeaves();
        due(BAD, x.cell(-1, 0, 0));
        due(BAD, x.cell(4, 0, 0));
        due(-11, x.cell(0, -1, 0));
        for (int sort = 0; sort < 3; sort++) x.sheet(sort, sort, 3);
        for (int sort = 0; sort < 3; sort++) {
            due(-12, x.cell(sort, -1, 0));
            due(-12, x.cell(sort, 3, 0));
            due(-12, x.cell(sort, MIN, 0));
            due(1, x.cell(sort, 0, 127));
            due(127, cost(x, sort, sort, 0));
            due(1, x.cell(sort, 1, 65536 + 256 + 3));
            due(sort == 0 ? 3 : sort == 1 ? 259 : 0, cost(x, sort, sort, 1));
            due(1, x.cell(sort, 2, 200));
            due(sort == 0 ? 0 : 200, cost(x, sort, sort, 2));
            due(1, x.cell(sort, 2, -65536 + 999));
            due(sort == 1 ? 999 : 0, cost(x, sort, sort, 2));
        }
    }

    private static void copy() {
        WayLeaves x = new WayLeaves();
        due(BAD, x.copy(-1, 0, 0, 0, 0));
        due(BAD, x.copy(4, 0, 0, 0, 0));
        due(BAD, x.copy(0, 0, -1, 0, 0));
        due(BAD, x.copy(0, 0, 4, 0, 0));
        due(-11, x.copy(0, 0, 0, 0, -1));
        x.sheet(0, 1, 5);
        x.sheet(1, 2, 5);
        x.sheet(2, 1, 3);
        due(-11, x.copy(0, 0, 3, 0, -1));
        due(-11, x.copy(3, 0, 0, 0, 0));
        due(-13, x.copy(0, 0, 1, 0, 0));
        due(-13, x.copy(1, -1, 0, 0, -1));
        due(-12, x.copy(0, 0, 2, 0, -1));
        due(-12, x.copy(0, -1, 2, 0, 1));
        due(-12, x.copy(0, 0, 2, -1, 1));
        due(-12, x.copy(0, 0, 2, 0, 4));
        due(-12, x.copy(2, 0, 0, 0, 4));
        due(-12, x.copy(0, 6, 2, 0, 0));
        due(-12, x.copy(0, MAX, 2, 0, 1));
        due(-12, x.copy(0, 1, 2, 1, MAX));
        due(0, x.copy(0, 5, 2, 3, 0));
        for (int i = 0; i < 5; i++) x.cell(0, i, i + 1);
        due(3, x.copy(0, 1, 2, 0, 3));
        for (int i = 0; i < 3; i++) due(i + 2, cost(x, 2, 1, i));
        due(4, x.copy(0, 0, 0, 1, 4));
        for (int i = 1; i < 5; i++) due(i, cost(x, 0, 1, i));
        due(4, x.copy(0, 1, 0, 0, 4));
        for (int i = 0; i < 4; i++) due(i + 1, cost(x, 0, 1, i));
    }

    private static void costs() {
        WayLeaves x = new WayLeaves();
        due(BAD, x.costs(-1, 0, 0, 0, 0));
        due(BAD, x.costs(48, 0, 0, 0, 0));
        due(BAD, x.costs(0, -1, 0, 0, 0));
        due(BAD, x.costs(0, 4, 0, 0, 0));
        due(BAD, x.costs(0, 0, -1, 0, 0));
        due(BAD, x.costs(0, 0, 3, 0, 0));
        due(BAD, x.costs(0, 0, 0, 0, -1));
        due(BAD, x.costs(0, 0, 0, 0, 41));
        due(-11, x.costs(0, 0, 0, 0, 0));
        due(-11, x.costs(0, 0, 2, -1, 1));
        x.sheet(0, 1, 4);
        due(-13, x.costs(0, 0, 0, 0, 0));
        due(-13, x.costs(0, 0, 2, -1, 1));
        due(0, x.costs(0, 0, 1, 0, 0));
        due(0, x.costs(0, 0, 1, 99, 0));
        due(-12, x.costs(0, 0, 1, -1, 1));
        due(-12, x.costs(0, 0, 1, 4, 1));
        due(-12, x.costs(0, 0, 1, MAX, 2));
        x.cell(0, 0, 1);
        x.cell(0, 1, 1000);
        x.cell(0, 2, 999);
        x.cell(0, 3, -5);
        due(2, x.costs(10, 0, 1, 0, 4));
        due(1, x.set(10, 2, 10));
        due(10, x.set(11, 2, 10));
        due(999, x.set(12, 2, 10));
        due(10, x.set(13, 2, 10));
        // What stood ahead of a place outside was told.
        due(-12, x.costs(20, 0, 1, 2, 3));
        due(999, x.set(20, 2, 10));
        due(-12, x.costs(20, 0, 1, -1, 4));
        due(10, x.set(21, 2, 10));
        // Behind the last PLOT items are left out, but must be there.
        due(1, x.costs(47, 0, 1, 0, 4));
        due(1, x.set(47, 2, 10));
        due(-12, x.costs(47, 0, 1, 0, 5));
        due(1, x.set(47, 2, 10));
    }

    private static void taken() {
        WayLeaves x = withSpans(8, 9, 10, 11, 12, 13);
        due(BAD, x.taken(0, -1));
        due(BAD, x.taken(0, 6));
        due(-11, x.taken(0, 0));
        for (int kind = 0; kind < 6; kind++) x.leave(kind, 5 - kind, 0, 0, -1);
        due(-11, x.taken(-1, 0));
        due(-11, x.taken(6, 5));
        due(BAD, x.taken(6, 6));
        String[] isUnder = {"100000", "110000", "101000", "110100", "101010", "101001"};
        for (int kind = 0; kind < 6; kind++) {
            for (int k = 0; k < 6; k++) due(isUnder[kind].charAt(k) == '1' ? 5 - kind : -13, x.taken(kind, k));
        }
    }

    public static void main(String[] args) {
        check("promise 1", PromisesTest::aNewObject);
        check("promise 2", PromisesTest::pass);
        check("promises 3, 4", PromisesTest::sellAndOwner);
        check("promise 5", PromisesTest::heir);
        check("promise 6", PromisesTest::set);
        check("promises 7, 8", PromisesTest::treesAndHigh);
        check("promise 9", PromisesTest::tower);
        check("promise 10", PromisesTest::span);
        check("promise 11", PromisesTest::heat);
        check("promise 12", PromisesTest::spanTold);
        check("promise 12, ENDS", PromisesTest::ends);
        check("promises 3, 13, full", PromisesTest::allFull);
        check("promise 13", PromisesTest::leave);
        check("promise 14", PromisesTest::leaveTold);
        check("promise 15", PromisesTest::renew);
        check("promise 16", PromisesTest::appeal);
        check("promise 17", PromisesTest::undo);
        check("promise 18", PromisesTest::has);
        check("promise 19", PromisesTest::yearly);
        check("promises 19, 26", PromisesTest::partsOfAllTogether);
        check("promise 20", PromisesTest::feed);
        check("promise 21", PromisesTest::text);
        check("promise 21, long", PromisesTest::longTexts);
        check("promise 21, FAULT", PromisesTest::faults);
        check("promise 21, open", PromisesTest::openOnes);
        check("promise 23, values", PromisesTest::values);
        check("promise 23, NAMES", PromisesTest::names);
        check("promise 22", PromisesTest::force);
        check("promise 23", PromisesTest::says);
        check("promises 24, 25", PromisesTest::claimAndDoubled);
        check("promise 26", PromisesTest::dueTo);
        check("promises 27, 28", PromisesTest::lookAndBounds);
        check("promise 29", PromisesTest::hold);
        check("promise 30", PromisesTest::way);
        check("promise 30, long", PromisesTest::longWay);
        check("promise 31", PromisesTest::couldAsk);
        check("promise 32", PromisesTest::asking);
        check("promise 33", PromisesTest::toAsk);
        check("promise 34", PromisesTest::count);
        check("promise 35", PromisesTest::sheet);
        check("promise 36", PromisesTest::cell);
        check("promise 37", PromisesTest::copy);
        check("promise 38", PromisesTest::costs);
        check("promise 39", PromisesTest::taken);
        endOfTest();
    }
}
