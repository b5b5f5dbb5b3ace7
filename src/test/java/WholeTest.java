import java.util.function.ToLongFunction;

/** What goes through all promises: objects by themselves, asking that changes nothing, README's run. */
public final class WholeTest extends Checks {
    private static void readme() {
        WayLeaves x = new WayLeaves();
        due(0, x.tower(0, 40));
        due(1, x.tower(9, 30));
        due(0, x.span(0, 1, 8, 400));
        due(0, x.leave(0, 0, 3000, 0, -1));
        due(1, x.has(0, 364));
        due(365, x.spanTold(0, 6));
        due(50, x.way(0, 18, -1));
        due(BAD, x.has(1, 0));
        String s = "pays near<6;sum 600;";
        for (int i = 0; i < s.length(); i++) due(i + 1, x.feed(1, s.charAt(i)));
        due(1, x.text());
        due(0, x.force(1));
        due(600, x.says(0, 1));
        due(-105, text(x, "pays ;sum 2;"));
        due(0, x.count(8));
    }

    /** What is done on one object is not seen on another one, be it made earlier or later. */
    private static void objectsByThemselves() {
        WayLeaves earlier = new WayLeaves();
        WayLeaves x = world();
        WayLeaves later = new WayLeaves();
        for (WayLeaves other : new WayLeaves[] {earlier, later}) {
            for (int what = 0; what < 12; what++) due(what == 7 ? 1 : 0, other.count(what));
            for (int plot = 0; plot < 48; plot++) {
                due(0, other.owner(plot, 9999));
                due(0, other.high(plot));
                due(10, other.way(plot, plot, -1));
                due(-1, other.bounds(plot, 0));
            }
            for (int owner = 1; owner < 10; owner++) due(0, other.heir(0, owner, 0));
            for (int owner = 0; owner < 10; owner++) due(0, other.hold(owner, 0));
            for (int sheet = 0; sheet < 4; sheet++) due(-11, other.cell(sheet, 0, 0));
            due(NO, other.spanTold(0, 0));
            due(BAD, other.leaveTold(0, 0));
            due(BAD, other.force(1));
            due(0, other.doubled());
        }
        for (int what = 0; what < 12; what++) due(world().count(what), x.count(what));
    }

    /** Calls on two objects by turns answer as on each of them alone. */
    private static void byTurns() {
        WayLeaves x = withSpans(8);
        WayLeaves y = withSpans(9);
        x.leave(0, 0, 1500, 0, -1);
        y.leave(1, 0, 0, 0, -1);
        feed(x, "pays 1;sum 2;");
        feed(y, "pays 3;");
        due(13, x.count(8));
        due(7, y.count(8));
        due(1, x.text());
        due(-107, y.text());
        due(365, x.spanTold(0, 6));
        due(9999, y.spanTold(0, 6));
        due(100, x.yearly(0, 0));
        due(0, y.yearly(0, 0));
        x.set(1, 3, 1);
        due(50, x.way(0, 2, -1));
        due(30, y.way(0, 2, -1));
        due(8, x.way(0, 2, 1));
        due(1, y.way(0, 2, 1));
        x.pass(365);
        due(0, x.has(0, x.count(0)));
        due(1, y.has(0, y.count(0)));
    }

    /** Each call that only asks, on an object with something of everything: it answers so, and so again. */
    private static void askingChangesNothing() {
        asks(1, x -> x.owner(8, NOW));
        asks(8, x -> x.high(8));
        int[] told = {8, 400, 28, 2, -6, 1, 730, 60};
        for (int what = 0; what < told.length; what++) {
            int asked = what;
            asks(told[what], x -> x.spanTold(0, asked));
        }
        int[] leave = {4, 0, NOW - 10, 1825, 1, 100, 1, NOW + 30, 1};
        for (int what = 0; what < leave.length; what++) {
            int asked = what;
            asks(leave[what], x -> x.leaveTold(5, asked));
        }
        asks(1, x -> x.has(0, NOW));
        asks(2, x -> x.has(3, NOW));
        asks(1, x -> x.has(1, 9999));
        asks(0, x -> x.has(2, 9999));
        asks(600, x -> x.yearly(5, NOW));
        asks(3, x -> x.says(1, 0));
        asks(7 * 500 + 31, x -> x.says(1, 1));
        asks(2, WayLeaves::doubled);
        asks(21, x -> x.due(2));
        asks(10, x -> x.due(3));
        asks(1035, x -> x.bounds(3, 0));
        asks(1100, x -> x.bounds(3, 1));
        asks(73, x -> x.way(0, 18, -1));
        asks(1, x -> x.way(0, 18, 1));
        asks(0, x -> x.couldAsk(1, 0, 18));
        asks(0, x -> x.toAsk(3, -1));
        asks(1, x -> x.toAsk(3, 0));
        for (int what = 0; what < 12; what++) {
            int asked = what;
            asks(world().count(what), x -> x.count(asked));
        }
        asks(2, x -> x.taken(4, 2));
    }

    private static void asks(long want, ToLongFunction<WayLeaves> call) {
        refused(want, call);
        WayLeaves x = world();
        due(want, call.applyAsLong(x));
        due(want, call.applyAsLong(x));
    }

    public static void main(String[] args) {
        check("README", WholeTest::readme);
        check("objects by themselves", WholeTest::objectsByThemselves);
        check("objects by turns", WholeTest::byTurns);
        check("asking", WholeTest::askingChangesNothing);
        endOfTest();
    }
}
