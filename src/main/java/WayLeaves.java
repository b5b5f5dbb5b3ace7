import java.util.Arrays;

/** Leave to cross land with wires: the document's face, over one small class for each of its matters. */
public final class WayLeaves {
    public static final int NONE = -1, BAD = -2, STATE = -3, FULL = -4;
    public static final long NO = -4611686018427387904L;

    private static final int MISSING = -11, OUTSIDE = -12, UNLIKE = -13, BELOW = -14;
    private static final int NO_HEAT = -100, NO_BOUNDS = -5, FAULT = -100;

    private static final int LAST_DAY = 9999, YEAR = 365, LONGEST_PASS = 2000;
    private static final int COLUMNS = 8, PLOTS = 48, OWNERS = 10, MOST_SHARES = 99;
    private static final int MOST_SALES = 40, MOST_TOWERS = 16, MOST_SPANS = 16, MOST_LEAVES = 24;
    private static final int MOST_TEXTS = 6, MOST_BYTES = 160, MOST_CLAIMS = 30, MOST_LOOKS = 20;
    private static final int MOST_MONEY = 99999, MOST_HOLD = 9999, MOST_LIKENESS = 50;
    private static final int MOST_ASKED = 6, MOST_ASK_DAYS = 60;

    private static final int ROOF = 0, WORTH = 1, COST = 2, BAR = 3;
    private static final int[] LEAST_TOLD = {0, 0, 1, 0};
    private static final int[] MOST_TOLD = {60, 9999, 999, 1};

    private static final int KINDS = 6, ORDER = 4, MOST_RENEWALS = 5, APPEAL_DAYS = 42;
    private static final int[] LASTS = {365, 9999, 5475, 9999, 1825, 1825};
    private static final int[] BINDS = {0, 1, 0, 1, 1, 0};
    private static final int[] UNDER = {-1, 0, 0, 1, 2, 2};

    private static final String THE_ACT = "pays near < 6 ; sum 10 * span + worth ;";

    private final Land land;
    private final Heirs heirs;
    private final Line line;
    private final Leaves leaves;
    private final Reader reader;
    private final Acts acts;
    private final Claims claims;
    private final Looks looks;
    private final Ways ways;
    private final Asks asks;
    private final Sheets sheets;

    public WayLeaves() {
        land = new Land();
        heirs = new Heirs();
        line = new Line(land);
        leaves = new Leaves(land, line, heirs);
        reader = new Reader();
        acts = new Acts(land, line);
        claims = new Claims(land, leaves, acts, heirs);
        looks = new Looks();
        ways = new Ways(land);
        asks = new Asks(land, line, leaves);
        sheets = new Sheets(land);
        reader.takeTheAct();
        reader.readTape();
        acts.keep(reader);
    }

    private static boolean within(int v, int least, int most) {
        return v >= least && v <= most;
    }

    private static boolean isDay(int day) {
        return within(day, 0, LAST_DAY);
    }

    private static boolean isPlot(int plot) {
        return within(plot, 0, PLOTS - 1);
    }

    private static boolean isOwner(int owner) {
        return within(owner, 0, OWNERS - 1);
    }

    public int pass(int n) {
        if (!within(n, 1, LONGEST_PASS)) return BAD;
        if (land.day + n > LAST_DAY) return FULL;
        land.day += n;
        return land.day;
    }

    // ---- plots

    public int sell(int plot, int owner, int day) {
        if (!isPlot(plot) || !isOwner(owner) || !land.isStillToCome(day)) return BAD;
        if (land.sales >= MOST_SALES) return FULL;
        return land.addSale(plot, owner, day);
    }

    public int owner(int plot, int day) {
        if (!isPlot(plot) || !isDay(day)) return BAD;
        return land.ownerOn(plot, day);
    }

    public int heir(int of, int owner, int shares) {
        if (!isOwner(of) || !isOwner(owner) || of == owner || !within(shares, 0, MOST_SHARES)) return BAD;
        return heirs.giveShares(of, owner, shares);
    }

    public int set(int plot, int what, int v) {
        if (!isPlot(plot) || !within(what, ROOF, BAR)) return BAD;
        if (!within(v, LEAST_TOLD[what], MOST_TOLD[what])) return BAD;
        return land.tell(plot, what, v);
    }

    public int trees(int plot, int high, int grow) {
        if (!isPlot(plot) || !within(high, 0, 40) || !within(grow, 0, 9)) return BAD;
        return land.plant(plot, high, grow);
    }

    public int high(int plot) {
        if (!isPlot(plot)) return BAD;
        return land.treesNow(plot);
    }

    // ---- towers, spans

    public int tower(int plot, int height) {
        if (!isPlot(plot) || !within(height, 10, 90)) return BAD;
        if (line.towers >= MOST_TOWERS) return FULL;
        return line.addTower(height);
    }

    public int span(int a, int b, int plot, int length) {
        if (!line.isTower(a) || !line.isTower(b) || a == b) return BAD;
        if (!isPlot(plot) || !within(length, 50, 600)) return BAD;
        if (line.spans >= MOST_SPANS) return FULL;
        return line.addSpan(a, b, plot, length);
    }

    public int heat(int span, int heat) {
        if (!line.isSpan(span) || !within(heat, -20, 90)) return NO_HEAT;
        return line.changeHeat(span, heat);
    }

    public long spanTold(int span, int what) {
        if (!line.isSpan(span)) return NO;
        switch (what) {
            case 0: return line.plots[span];
            case 1: return line.lengths[span];
            case 2: return line.sag(span);
            case 3: return line.low(span);
            case 4: return line.near(span);
            case 5: return line.isTooNear(span) ? 1 : 0;
            case 6: return leaves.ends(span);
            case 7: return line.askDays[span];
            default: return NO;
        }
    }

    // ---- leaves

    public int leave(int kind, int span, int sum, int day, int on) {
        if (!within(kind, 0, KINDS - 1) || !line.isSpan(span)) return BAD;
        if (!within(sum, 0, MOST_MONEY) || !land.isStillToCome(day)) return BAD;
        if (on != NONE && (!leaves.isLeave(on) || leaves.spans[on] != span)) return BAD;
        if (leaves.count >= MOST_LEAVES) return FULL;
        return leaves.add(kind, span, sum, day, on);
    }

    public int leaveTold(int leave, int what) {
        if (!leaves.isLeave(leave)) return BAD;
        switch (what) {
            case 0: return leaves.kinds[leave];
            case 1: return leaves.spans[leave];
            case 2: return leaves.begins[leave];
            case 3: return leaves.lasts(leave);
            case 4: return BINDS[leaves.kinds[leave]];
            case 5: return leaves.yearlyOf(leave);
            case 6: return leaves.isInForce(leave, land.day) ? 1 : 0;
            case 7: return leaves.undone[leave];
            case 8: return leaves.appealed[leave] ? 1 : 0;
            default: return BAD;
        }
    }

    public int renew(int leave) {
        if (!leaves.isLeave(leave)) return BAD;
        if (leaves.kinds[leave] == ORDER) return UNLIKE;
        if (leaves.renewals[leave] >= MOST_RENEWALS) return STATE;
        leaves.renewals[leave]++;
        return leaves.renewals[leave];
    }

    public int appeal(int leave) {
        if (!leaves.isLeave(leave)) return BAD;
        if (leaves.kinds[leave] != ORDER) return UNLIKE;
        int gone = land.day - leaves.begins[leave];
        if (leaves.appealed[leave] || !within(gone, 0, APPEAL_DAYS)) return STATE;
        leaves.appealed[leave] = true;
        return 1;
    }

    public int undo(int leave, int day) {
        if (!leaves.isLeave(leave) || !within(day, leaves.begins[leave], LAST_DAY)) return BAD;
        if (leaves.kinds[leave] != ORDER) return UNLIKE;
        if (!leaves.appealed[leave] || leaves.undone[leave] != NONE) return STATE;
        leaves.undone[leave] = day;
        return leaves.hangingOn(leave);
    }

    public int has(int span, int day) {
        if (!line.isSpan(span) || !isDay(day)) return BAD;
        return leaves.hasOn(span, day);
    }

    public long yearly(int owner, int day) {
        if (!isOwner(owner) || !isDay(day)) return NO;
        return leaves.yearlyTo(owner, day);
    }

    // ---- the act, claims

    public int feed(int n, long bytes) {
        if (!within(n, 1, 8)) return BAD;
        if (reader.size + n > MOST_BYTES) return FULL;
        for (int i = 0; i < n; i++) reader.take((int) (bytes >>> (8 * i)) & 255);
        return reader.size;
    }

    public int text() {
        if (acts.count >= MOST_TEXTS) return FULL;
        int fault = reader.readTape();
        if (fault != NONE) return FAULT - fault;
        return acts.keep(reader);
    }

    public int force(int text) {
        if (!within(text, 0, acts.count - 1)) return BAD;
        int was = acts.inForce;
        acts.inForce = text;
        return was;
    }

    public long says(int span, int part) {
        if (!line.isSpan(span) || !within(part, 0, 1)) return NO;
        return acts.comesTo(span, part);
    }

    public int claim(int owner, int span, int much) {
        if (!isOwner(owner) || !line.isSpan(span) || !within(much, 0, MOST_MONEY)) return BAD;
        if (claims.count >= MOST_CLAIMS) return FULL;
        return claims.add(owner, span, much);
    }

    public int doubled() {
        return claims.doubles;
    }

    public long due(int owner) {
        if (!isOwner(owner)) return NO;
        return claims.dueTo(owner);
    }

    public int look(int plot, int p, int d) {
        if (!isPlot(plot) || !within(p, 0, MOST_MONEY) || !within(d, 0, MOST_LIKENESS)) return BAD;
        if (looks.count >= MOST_LOOKS) return FULL;
        return looks.add(plot, p, d);
    }

    public int bounds(int plot, int what) {
        if (!isPlot(plot) || !within(what, 0, 1)) return NO_BOUNDS;
        return looks.boundOf(plot, what);
    }

    // ---- ways, what is to ask

    public int hold(int owner, int n) {
        if (!isOwner(owner) || !within(n, 0, MOST_HOLD)) return BAD;
        int was = land.holds[owner];
        land.holds[owner] = n;
        return was;
    }

    public int way(int from, int to, int i) {
        if (!isPlot(from) || !isPlot(to)) return BAD;
        int cost = ways.leastCost(from, to, NONE, NONE);
        if (cost == NONE || i == -1) return cost;
        return ways.plotAt(from, i);
    }

    public int couldAsk(int owner, int from, int to) {
        if (!isOwner(owner) || !isPlot(from) || !isPlot(to)) return BAD;
        int without = ways.leastCost(from, to, NONE, owner);
        if (without == NONE) return NONE;
        return without - ways.leastCost(from, to, owner, NONE);
    }

    public int asking(int span, int days) {
        if (!line.isSpan(span) || !within(days, 1, MOST_ASK_DAYS)) return BAD;
        int was = line.askDays[span];
        line.askDays[span] = days;
        return was;
    }

    public int toAsk(int spans, int i) {
        if (spans >>> line.spans != 0 || Integer.bitCount(spans) > MOST_ASKED) return BAD;
        asks.choose(spans);
        asks.arrange();
        return i == -1 ? asks.late() : asks.spanAt(i);
    }

    public int count(int what) {
        switch (what) {
            case 0: return land.day;
            case 1: return land.sales;
            case 2: return line.towers;
            case 3: return line.spans;
            case 4: return leaves.count;
            case 5: return claims.count;
            case 6: return looks.count;
            case 7: return acts.count;
            case 8: return reader.size;
            case 9: return acts.inForce;
            case 10: return leaves.bareSpans();
            case 11: return line.tooNearSpans();
            default: return BAD;
        }
    }

    // ---- the host

    public int sheet(int sheet, int sort, int n) {
        if (!sheets.isSheet(sheet) || !within(sort, NONE, Sheets.INTS)) return BAD;
        if (sort == NONE) return sheets.remove(sheet);
        if (n > Sheets.LONGEST) return BAD;
        if (n < 0) return BELOW;
        return sheets.lay(sheet, sort, n);
    }

    public int cell(int sheet, int i, int v) {
        if (!sheets.isSheet(sheet)) return BAD;
        if (sheets.isMissing(sheet)) return MISSING;
        if (!within(i, 0, sheets.sizes[sheet] - 1)) return OUTSIDE;
        return sheets.write(sheet, i, v);
    }

    public int copy(int sheet, int i, int other, int j, int n) {
        if (!sheets.isSheet(sheet) || !sheets.isSheet(other)) return BAD;
        if (sheets.isMissing(sheet) || sheets.isMissing(other)) return MISSING;
        if (sheets.sorts[sheet] != sheets.sorts[other]) return UNLIKE;
        if (!sheets.hasPlaces(sheet, i, n) || !sheets.hasPlaces(other, j, n)) return OUTSIDE;
        System.arraycopy(sheets.rows[sheet], i, sheets.rows[other], j, n);
        return n;
    }

    public int costs(int plot, int sheet, int sort, int from, int n) {
        if (!isPlot(plot) || !sheets.isSheet(sheet)) return BAD;
        if (!within(sort, 0, Sheets.INTS) || !within(n, 0, Sheets.LONGEST)) return BAD;
        // A missing SHEET is of no sort, so it can be taken for one of any: only then is it found missing.
        if (sheets.isMissing(sheet)) return MISSING;
        if (sheets.sorts[sheet] != sort) return UNLIKE;
        return sheets.tellCosts(plot, sheet, from, n);
    }

    public int taken(int leave, int k) {
        if (!within(k, 0, KINDS - 1)) return BAD;
        if (!leaves.isLeave(leave)) return MISSING;
        return leaves.isUnder(leave, k) ? leaves.spans[leave] : UNLIKE;
    }

    /** The DAY, the PLOTS with what was told of them, their SALES, and what OWNERS HOLD out for. */
    private static final class Land {
        int day;
        int sales;
        final int[] salePlots = new int[MOST_SALES];
        final int[] saleOwners = new int[MOST_SALES];
        final int[] saleDays = new int[MOST_SALES];
        final int[] holds = new int[OWNERS];
        final int[][] told = new int[BAR + 1][PLOTS];
        final int[] treeHeights = new int[PLOTS];
        final int[] treeGrowths = new int[PLOTS];
        final int[] treeDays = new int[PLOTS];

        Land() {
            Arrays.fill(told[COST], 10);
        }

        boolean isStillToCome(int when) {
            return within(when, day, LAST_DAY);
        }

        int addSale(int plot, int owner, int when) {
            salePlots[sales] = plot;
            saleOwners[sales] = owner;
            saleDays[sales] = when;
            sales++;
            return sales;
        }

        int ownerOn(int plot, int when) {
            int owner = 0;
            int latest = 0;
            for (int i = 0; i < sales; i++) {
                if (salePlots[i] == plot && saleDays[i] >= latest && saleDays[i] <= when) {
                    latest = saleDays[i];
                    owner = saleOwners[i];
                }
            }
            return owner;
        }

        /** The first DAY behind one in which a PLOT is sold; behind the last DAY: none. */
        int nextSale(int plot, int when) {
            int next = LAST_DAY + 1;
            for (int i = 0; i < sales; i++) {
                if (salePlots[i] == plot && saleDays[i] > when) next = Math.min(next, saleDays[i]);
            }
            return next;
        }

        int tell(int plot, int what, int v) {
            int was = told[what][plot];
            told[what][plot] = v;
            return was;
        }

        int plant(int plot, int height, int growth) {
            int was = treesNow(plot);
            treeHeights[plot] = height;
            treeGrowths[plot] = growth;
            treeDays[plot] = day;
            return was;
        }

        int treesNow(int plot) {
            return treeHeights[plot] + treeGrowths[plot] * ((day - treeDays[plot]) / YEAR);
        }
    }

    /** SHARES, and a till that is filled with what is to be paid to each OWNER before it is parted. */
    private static final class Heirs {
        final int[][] shares = new int[OWNERS][OWNERS];
        final long[] till = new long[OWNERS];

        int giveShares(int of, int owner, int n) {
            int was = shares[of][owner];
            shares[of][owner] = n;
            return was;
        }

        void emptyTill() {
            Arrays.fill(till, 0L);
        }

        void pay(int owner, long sum) {
            till[owner] += sum;
        }

        long comesTo(int owner) {
            long sum = 0;
            for (int of = 0; of < OWNERS; of++) sum += part(of, owner);
            return sum;
        }

        private long part(int of, int owner) {
            int all = 0;
            for (int i = 0; i < OWNERS; i++) all += shares[of][i];
            if (all <= 0) return of == owner ? till[of] : 0;
            long given = 0;
            int least = NONE;
            for (int i = 0; i < OWNERS; i++) {
                if (least == NONE && shares[of][i] > 0) least = i;
                given += till[of] * shares[of][i] / all;
            }
            long own = till[of] * shares[of][owner] / all;
            return owner == least ? own + till[of] - given : own;
        }
    }

    /** TOWERS and SPANS. Where a TOWER stands is not kept: no call asks for it. */
    private static final class Line {
        private static final int FIRST_HEAT = 20, TOO_NEAR = 6;

        final Land land;
        int towers;
        int spans;
        final int[] heights = new int[MOST_TOWERS];
        final int[] plots = new int[MOST_SPANS];
        final int[] lengths = new int[MOST_SPANS];
        final int[] lesserHeights = new int[MOST_SPANS];
        final int[] heats = new int[MOST_SPANS];
        final int[] askDays = new int[MOST_SPANS];

        Line(Land land) {
            this.land = land;
        }

        boolean isTower(int tower) {
            return within(tower, 0, towers - 1);
        }

        boolean isSpan(int span) {
            return within(span, 0, spans - 1);
        }

        int addTower(int height) {
            heights[towers] = height;
            towers++;
            return towers - 1;
        }

        int addSpan(int a, int b, int plot, int length) {
            plots[spans] = plot;
            lengths[spans] = length;
            lesserHeights[spans] = Math.min(heights[a], heights[b]);
            heats[spans] = FIRST_HEAT;
            askDays[spans] = 1;
            spans++;
            return spans - 1;
        }

        int changeHeat(int span, int heat) {
            int was = heats[span];
            heats[span] = heat;
            return was;
        }

        int sag(int span) {
            int length = lengths[span];
            // Each quotient is cut for itself, ahead of the sum.
            int both = length * length / 10000 + length * (heats[span] - FIRST_HEAT) / 1000;
            return both < 0 ? 0 : both;
        }

        int low(int span) {
            return lesserHeights[span] - sag(span);
        }

        int near(int span) {
            int plot = plots[span];
            return low(span) - Math.max(land.told[ROOF][plot], land.treesNow(plot));
        }

        boolean isTooNear(int span) {
            return near(span) < TOO_NEAR;
        }

        int tooNearSpans() {
            int n = 0;
            for (int span = 0; span < spans; span++) {
                if (isTooNear(span)) n++;
            }
            return n;
        }
    }

    /** LEAVES of all KINDS, and what SPANS have by them. */
    private static final class Leaves {
        final Land land;
        final Line line;
        final Heirs heirs;
        int count;
        final int[] kinds = new int[MOST_LEAVES];
        final int[] spans = new int[MOST_LEAVES];
        final int[] sums = new int[MOST_LEAVES];
        final int[] begins = new int[MOST_LEAVES];
        final int[] ons = new int[MOST_LEAVES];
        final int[] renewals = new int[MOST_LEAVES];
        final int[] undone = new int[MOST_LEAVES];
        final boolean[] appealed = new boolean[MOST_LEAVES];
        final boolean[] marks = new boolean[MOST_LEAVES];

        Leaves(Land land, Line line, Heirs heirs) {
            this.land = land;
            this.line = line;
            this.heirs = heirs;
        }

        boolean isLeave(int leave) {
            return within(leave, 0, count - 1);
        }

        int add(int kind, int span, int sum, int day, int on) {
            kinds[count] = kind;
            spans[count] = span;
            sums[count] = sum;
            begins[count] = day;
            ons[count] = on;
            undone[count] = NONE;
            count++;
            return count - 1;
        }

        int lasts(int leave) {
            return LASTS[kinds[leave]] * (1 + renewals[leave]);
        }

        int yearlyOf(int leave) {
            int plain = sums[leave] / 15;
            switch (kinds[leave]) {
                case 1: return 0;
                case 2: return 2 * plain;
                case 3: return sums[leave] / 100;
                case 5: return 2 * plain;
                default: return plain; // an ORDER too: half of a TERM's, which is twice this
            }
        }

        boolean isUnder(int leave, int k) {
            int kind = kinds[leave];
            for (int n = 0; n < KINDS && kind > k; n++) kind = UNDER[kind];
            return kind == k;
        }

        /** In force but for what it HANGS on. */
        private boolean standsAlone(int leave, int day) {
            int begin = begins[leave];
            if (day < begin || day >= begin + lasts(leave)) return false;
            if (undone[leave] != NONE && day >= undone[leave]) return false;
            if (BINDS[kinds[leave]] == 1) return true;
            int plot = line.plots[spans[leave]];
            return land.ownerOn(plot, day) == land.ownerOn(plot, begin);
        }

        /** Of one SPAN (NONE: of all). What a LEAVE HANGS on is a lesser one of its SPAN, so it is marked already. */
        private void markInForce(int span, int day) {
            for (int i = 0; i < count; i++) {
                boolean asked = span == NONE || spans[i] == span;
                boolean held = ons[i] == NONE || marks[ons[i]];
                marks[i] = asked && held && standsAlone(i, day);
            }
        }

        boolean isInForce(int leave, int day) {
            markInForce(spans[leave], day);
            return marks[leave];
        }

        int hasOn(int span, int day) {
            markInForce(span, day);
            int has = 0;
            for (int i = 0; i < count; i++) {
                if (marks[i] && kinds[i] != ORDER) return 1;
                if (marks[i]) has = 2;
            }
            return has;
        }

        /** Goes only from change to change: between two of them a SPAN has the same. */
        int ends(int span) {
            int day = land.day;
            for (int n = 0; n <= MOST_SALES + 2 * MOST_LEAVES && day <= LAST_DAY; n++) {
                if (hasOn(span, day) == 0) return day;
                day = nextChange(span, day);
            }
            return NONE;
        }

        /** The first DAY behind one in which a LEAVE of a SPAN may cease to be IN FORCE. */
        private int nextChange(int span, int day) {
            int next = land.nextSale(line.plots[span], day);
            for (int i = 0; i < count; i++) {
                if (spans[i] == span) {
                    int end = begins[i] + lasts(i);
                    if (end > day) next = Math.min(next, end);
                    if (undone[i] > day) next = Math.min(next, undone[i]);
                }
            }
            return next;
        }

        int hangingOn(int leave) {
            int n = 0;
            for (int i = 0; i < count; i++) {
                marks[i] = ons[i] != NONE && (ons[i] == leave || marks[ons[i]]);
                if (marks[i]) n++;
            }
            return n;
        }

        long yearlyTo(int owner, int day) {
            markInForce(NONE, day);
            heirs.emptyTill();
            for (int i = 0; i < count; i++) {
                if (marks[i]) heirs.pay(land.ownerOn(line.plots[spans[i]], day), yearlyOf(i));
            }
            return heirs.comesTo(owner);
        }

        int bareSpans() {
            int n = 0;
            for (int span = 0; span < line.spans; span++) {
                if (hasOn(span, land.day) == 0) n++;
            }
            return n;
        }
    }

    /** THE TAPE, its TOKENS, and the code that they make: operands ahead of what is done with them. */
    private static final class Reader {
        private static final int END = 0, WRONG = 1, NUMBER = 2;
        private static final int PAYS = 128, SUM = 129, OR = 130, AND = 131, NOT = 132, MINUS = 133;
        private static final int DAY = 134, SPAN = 135, NEAR = 136, TREES = 137, HOUSE = 138, PRICE = 139;
        private static final int ORS = 0, ANDS = 1, NOTS = 2, SUMS = 3, ONES = 5;
        private static final int NOTHING = 0, LONGEST_NUMBER = 4, MOST_OPEN = 5;

        final int[] tape = new int[MOST_BYTES];
        int size;
        final int[] tokens = new int[MOST_BYTES + 1];
        final int[] places = new int[MOST_BYTES + 1];
        final int[] numbers = new int[MOST_BYTES + 1];
        int count;
        int at;
        /** Numbers as they are, all else as its TOKEN below 0; the second part begins at middle. */
        final int[] code = new int[MOST_BYTES];
        int length;
        int middle;

        void take(int b) {
            if (size >= MOST_BYTES) return;
            tape[size] = b;
            size++;
        }

        void takeTheAct() {
            for (int i = 0; i < THE_ACT.length(); i++) take(THE_ACT.charAt(i));
        }

        /** The place of the FAULT, or NONE; THE TAPE is empty then. */
        int readTape() {
            splitTape();
            at = 0;
            length = 0;
            middle = 0;
            boolean good = readParts();
            size = 0;
            return good ? NONE : places[at];
        }

        private void splitTape() {
            count = 0;
            int place = 0;
            for (int n = 0; n <= MOST_BYTES && place != NONE; n++) place = splitOne(behindBlanks(place));
        }

        /** The place behind a TOKEN, or NONE: behind an END or a WRONG one nothing is read. */
        private int splitOne(int place) {
            if (place >= size) return put(END, size, NONE);
            int b = tape[place];
            if (isLetter(b)) {
                int end = behindLetters(place);
                int word = wordAt(place, end);
                return put(word, place, word == WRONG ? NONE : end);
            }
            if (isDigit(b)) {
                int end = behindDigits(place);
                if (end - place > LONGEST_NUMBER) return put(WRONG, place, NONE);
                numbers[count] = numberAt(place, end);
                return put(NUMBER, place, end);
            }
            return isSign(b) ? put(b, place, place + 1) : put(WRONG, place, NONE);
        }

        private int put(int token, int place, int behind) {
            tokens[count] = token;
            places[count] = place;
            count++;
            return behind;
        }

        private static boolean isLetter(int b) {
            return within(b, 'a', 'z');
        }

        private static boolean isDigit(int b) {
            return within(b, '0', '9');
        }

        private static boolean isSign(int b) {
            return within(b, '(', '+') || b == '-' || within(b, ';', '=');
        }

        private int behindBlanks(int place) {
            int end = place;
            while (end < size && (tape[end] == 32 || tape[end] == 10)) end++;
            return end;
        }

        private int behindLetters(int place) {
            int end = place;
            while (end < size && isLetter(tape[end])) end++;
            return end;
        }

        private int behindDigits(int place) {
            int end = place;
            while (end < size && isDigit(tape[end])) end++;
            return end;
        }

        private int numberAt(int place, int end) {
            int n = 0;
            for (int i = place; i < end; i++) n = 10 * n + tape[i] - '0';
            return n;
        }

        private int wordAt(int place, int end) {
            if (isWord(place, end, "pays")) return PAYS;
            if (isWord(place, end, "sum")) return SUM;
            if (isWord(place, end, "or")) return OR;
            if (isWord(place, end, "and")) return AND;
            if (isWord(place, end, "not")) return NOT;
            if (isWord(place, end, "day")) return DAY;
            if (isWord(place, end, "span")) return SPAN;
            if (isWord(place, end, "near")) return NEAR;
            if (isWord(place, end, "trees")) return TREES;
            if (isWord(place, end, "house")) return HOUSE;
            if (isWord(place, end, "worth")) return PRICE;
            return WRONG;
        }

        private boolean isWord(int place, int end, String word) {
            if (end - place != word.length()) return false;
            for (int i = 0; i < word.length(); i++) {
                if (tape[place + i] != word.charAt(i)) return false;
            }
            return true;
        }

        private boolean accept(int token) {
            if (tokens[at] != token) return false;
            at++;
            return true;
        }

        private void emit(int c) {
            if (length >= MOST_BYTES) return;
            code[length] = c;
            length++;
        }

        private boolean readParts() {
            if (!accept(PAYS) || !readLevel(ORS, 0) || !accept(';')) return false;
            middle = length;
            return accept(SUM) && readLevel(ORS, 0) && accept(';') && tokens[at] == END;
        }

        /** What binds by a level's signs is of the next level; open counts each ( , not and - that is. */
        private boolean readLevel(int level, int open) {
            if (level >= ONES) return readOne(open);
            if (level == NOTS && tokens[at] == NOT) return readOpened(NOT, NOTS, open);
            if (!readLevel(level + 1, open)) return false;
            int most = level == NOTS ? 1 : MOST_BYTES;
            for (int n = 0; n < most && isSignOf(level, tokens[at]); n++) {
                int sign = tokens[at];
                at++;
                if (!readLevel(level + 1, open)) return false;
                emit(-sign);
            }
            return true;
        }

        private static boolean isSignOf(int level, int token) {
            switch (level) {
                case ORS: return token == OR;
                case ANDS: return token == AND;
                case NOTS: return token == '<' || token == '=';
                case SUMS: return token == '+' || token == '-';
                default: return token == '*';
            }
        }

        private boolean readOne(int open) {
            int token = tokens[at];
            if (token == '-') return readOpened(MINUS, ONES, open);
            if (token == '(') return readOpened(NOTHING, ORS, open) && accept(')');
            if (token != NUMBER && !within(token, DAY, PRICE)) return false;
            emit(token == NUMBER ? numbers[at] : -token);
            at++;
            return true;
        }

        /** The TOKEN that opens, and what belongs to it. */
        private boolean readOpened(int does, int level, int open) {
            if (open >= MOST_OPEN) return false;
            at++;
            if (!readLevel(level, open + 1)) return false;
            if (does != NOTHING) emit(-does);
            return true;
        }
    }

    /** The TEXTS as code, and what THE ACT says. */
    private static final class Acts {
        final Land land;
        final Line line;
        int count;
        int inForce;
        final int[][] codes = new int[MOST_TEXTS][MOST_BYTES];
        final int[] middles = new int[MOST_TEXTS];
        final int[] lengths = new int[MOST_TEXTS];
        final int[] stack = new int[MOST_BYTES];
        int top;

        Acts(Land land, Line line) {
            this.land = land;
            this.line = line;
        }

        int keep(Reader reader) {
            System.arraycopy(reader.code, 0, codes[count], 0, reader.length);
            middles[count] = reader.middle;
            lengths[count] = reader.length;
            count++;
            return count - 1;
        }

        int comesTo(int span, int part) {
            int begin = part == 0 ? 0 : middles[inForce];
            int end = part == 0 ? middles[inForce] : lengths[inForce];
            top = 0;
            for (int i = begin; i < end; i++) {
                int c = codes[inForce][i];
                if (c >= 0) push(c);
                else if (within(-c, Reader.DAY, Reader.PRICE)) push(named(-c, span));
                else if (c == -Reader.NOT) push(truth(pull() == 0));
                else if (c == -Reader.MINUS) push(-pull());
                else join(-c);
            }
            return stack[0];
        }

        private void join(int sign) {
            int second = pull();
            int first = pull();
            push(joined(sign, first, second));
        }

        private void push(int v) {
            if (top >= MOST_BYTES) return;
            stack[top] = v;
            top++;
        }

        private int pull() {
            if (top <= 0) return 0;
            top--;
            return stack[top];
        }

        private static int truth(boolean b) {
            return b ? 1 : 0;
        }

        private int named(int name, int span) {
            int plot = line.plots[span];
            switch (name) {
                case Reader.DAY: return land.day;
                case Reader.SPAN: return line.lengths[span];
                case Reader.NEAR: return line.near(span);
                case Reader.TREES: return land.treesNow(plot);
                case Reader.HOUSE: return land.told[ROOF][plot];
                default: return land.told[WORTH][plot];
            }
        }

        private static int joined(int sign, int first, int second) {
            switch (sign) {
                case Reader.OR: return truth(first != 0 || second != 0);
                case Reader.AND: return truth(first != 0 && second != 0);
                case '<': return truth(first < second);
                case '=': return truth(first == second);
                case '+': return first + second;
                case '-': return first - second;
                default: return first * second;
            }
        }
    }

    /** CLAIMS, and what is DUE by them. */
    private static final class Claims {
        final Land land;
        final Leaves leaves;
        final Acts acts;
        final Heirs heirs;
        int count;
        /** Bits: which CLAIMS are DOUBLED. */
        int doubles;
        final int[] owners = new int[MOST_CLAIMS];
        final int[] spans = new int[MOST_CLAIMS];
        final int[] sums = new int[MOST_CLAIMS];

        Claims(Land land, Leaves leaves, Acts acts, Heirs heirs) {
            this.land = land;
            this.leaves = leaves;
            this.acts = acts;
            this.heirs = heirs;
        }

        int add(int owner, int span, int much) {
            if (wasMade(owner, span)) doubles |= 1 << count;
            owners[count] = owner;
            spans[count] = span;
            sums[count] = much;
            count++;
            return count - 1;
        }

        private boolean wasMade(int owner, int span) {
            for (int i = 0; i < count; i++) {
                if (owners[i] == owner && spans[i] == span) return true;
            }
            return false;
        }

        long dueTo(int owner) {
            heirs.emptyTill();
            for (int i = 0; i < count; i++) {
                boolean counts = (doubles >> i & 1) == 0 && leaves.hasOn(spans[i], land.day) != 1;
                if (counts) heirs.pay(owners[i], Math.max(0, Math.min(sums[i], acts.comesTo(spans[i], 1))));
            }
            return heirs.comesTo(owner);
        }
    }

    /** LOOKS, and the BOUNDS of worth that they give. */
    private static final class Looks {
        private static final int NOT_MEETING = -2;

        int count;
        final int[] plots = new int[MOST_LOOKS];
        final int[] lowers = new int[MOST_LOOKS];
        final int[] uppers = new int[MOST_LOOKS];

        int add(int plot, int p, int d) {
            int margin = p * d / 100;
            plots[count] = plot;
            lowers[count] = p - margin;
            uppers[count] = p + margin;
            count++;
            return count;
        }

        int boundOf(int plot, int what) {
            int lower = NONE;
            int upper = 2 * MOST_MONEY;
            for (int i = 0; i < count; i++) {
                if (plots[i] == plot) {
                    lower = Math.max(lower, lowers[i]);
                    upper = Math.min(upper, uppers[i]);
                }
            }
            if (lower == NONE) return NONE;
            if (lower > upper) return NOT_MEETING;
            return what == 0 ? lower : upper;
        }
    }

    /** THE WAY over the grid. A weight holds the cost in its upper bits and counts the PLOT in its lower ones. */
    private static final class Ways {
        private static final int COST_UNIT = 64, BARRED = -1, FAR = 2147483647, SIDES = 4;

        final Land land;
        final int[] weights = new int[PLOTS];
        /** The least weight from each PLOT to the end of THE WAY, both with it. */
        final int[] totals = new int[PLOTS];

        Ways(Land land) {
            this.land = land;
        }

        /** HOLD of the OWNER spared does not count; the PLOTS of the OWNER shut out can't be crossed. */
        int leastCost(int from, int to, int spared, int shut) {
            for (int plot = 0; plot < PLOTS; plot++) weights[plot] = weightOf(plot, spared, shut);
            spreadFrom(to);
            return totals[from] == FAR ? NONE : totals[from] / COST_UNIT;
        }

        private int weightOf(int plot, int spared, int shut) {
            int owner = land.ownerOn(plot, land.day);
            if (land.told[BAR][plot] == 1 || owner == shut) return BARRED;
            int hold = owner == spared ? 0 : land.holds[owner];
            return (land.told[COST][plot] + hold) * COST_UNIT + 1;
        }

        /** Goes over the grid to and fro, so that few rounds are needed. */
        private void spreadFrom(int to) {
            Arrays.fill(totals, FAR);
            if (weights[to] == BARRED) return;
            totals[to] = weights[to];
            boolean changed = true;
            for (int round = 0; round < PLOTS && changed; round++) {
                changed = false;
                for (int i = 0; i < PLOTS; i++) {
                    if (lessen(round % 2 == 0 ? i : PLOTS - 1 - i)) changed = true;
                }
            }
        }

        private boolean lessen(int plot) {
            if (weights[plot] == BARRED) return false;
            int least = FAR;
            for (int side = 0; side < SIDES; side++) {
                int next = beside(plot, side);
                if (next != NONE) least = Math.min(least, totals[next]);
            }
            if (least == FAR || least + weights[plot] >= totals[plot]) return false;
            totals[plot] = least + weights[plot];
            return true;
        }

        /** The sides stand in the order of their PLOTS' numbers. */
        private static int beside(int plot, int side) {
            int column = plot % COLUMNS;
            switch (side) {
                case 0: return plot >= COLUMNS ? plot - COLUMNS : NONE;
                case 1: return column > 0 ? plot - 1 : NONE;
                case 2: return column < COLUMNS - 1 ? plot + 1 : NONE;
                default: return plot < PLOTS - COLUMNS ? plot + COLUMNS : NONE;
            }
        }

        /** Of THE WAY whose totals stand. */
        int plotAt(int from, int i) {
            if (!within(i, 0, totals[from] % COST_UNIT - 1)) return NONE;
            int plot = from;
            for (int n = 0; n < i && plot != NONE; n++) plot = nextOn(plot);
            return plot;
        }

        private int nextOn(int plot) {
            int left = totals[plot] - weights[plot];
            for (int side = 0; side < SIDES; side++) {
                int next = beside(plot, side);
                if (next != NONE && totals[next] == left) return next;
            }
            return NONE;
        }
    }

    /** In which order SPANS are to be asked: the best that can follow is found for each set that is done. */
    private static final class Asks {
        /** Above every sum of DAYS, so that one LATE more weighs more than any of them. */
        private static final int ONE_LATE = 1 << 20;
        private static final int SETS = 1 << MOST_ASKED;

        final Land land;
        final Line line;
        final Leaves leaves;
        int count;
        final int[] spans = new int[MOST_ASKED];
        final int[] ends = new int[MOST_ASKED];
        final int[] doneDays = new int[SETS];
        final int[] best = new int[SETS];

        Asks(Land land, Line line, Leaves leaves) {
            this.land = land;
            this.line = line;
            this.leaves = leaves;
        }

        void choose(int bits) {
            count = 0;
            doneDays[0] = land.day;
            for (int span = 0; span < MOST_SPANS && count < MOST_ASKED; span++) {
                if ((bits >> span & 1) == 0) continue;
                int bit = 1 << count;
                for (int set = 0; set < bit; set++) doneDays[set + bit] = doneDays[set] + line.askDays[span];
                spans[count] = span;
                ends[count] = leaves.ends(span);
                count++;
            }
        }

        /** Each set stands behind all that have one more, so what follows it is known. */
        void arrange() {
            int all = (1 << count) - 1;
            best[all] = 0;
            for (int done = all - 1; done >= 0; done--) best[done] = weightBehind(done, leastNext(done));
        }

        /** Of those not done the one that is best asked next, of like ones the least. */
        private int leastNext(int done) {
            int next = NONE;
            for (int i = 0; i < count; i++) {
                boolean open = (done >> i & 1) == 0;
                if (open && (next == NONE || weightBehind(done, i) < weightBehind(done, next))) next = i;
            }
            return next;
        }

        private int weightBehind(int done, int next) {
            if (next == NONE) return 0;
            int set = done | 1 << next;
            boolean late = ends[next] != NONE && doneDays[set] > ends[next];
            return best[set] + doneDays[set] + (late ? ONE_LATE : 0);
        }

        int late() {
            return best[0] / ONE_LATE;
        }

        int spanAt(int i) {
            if (!within(i, 0, count - 1)) return NONE;
            int done = 0;
            int next = leastNext(done);
            for (int n = 0; n < i && next != NONE; n++) {
                done |= 1 << next;
                next = leastNext(done);
            }
            return next == NONE ? NONE : spans[next];
        }
    }

    /** SHEETS: rows that are made once; a missing one has no sort. */
    private static final class Sheets {
        private static final int SHEETS = 4, BYTES = 0, SHORTS = 1, INTS = 2, LONGEST = 40;

        final Land land;
        final int[] sorts = new int[SHEETS];
        final int[] sizes = new int[SHEETS];
        final int[][] rows = new int[SHEETS][LONGEST];

        Sheets(Land land) {
            this.land = land;
            Arrays.fill(sorts, NONE);
        }

        boolean isSheet(int sheet) {
            return within(sheet, 0, SHEETS - 1);
        }

        boolean isMissing(int sheet) {
            return sorts[sheet] == NONE;
        }

        boolean hasPlaces(int sheet, int i, int n) {
            return i >= 0 && n >= 0 && n <= sizes[sheet] - i;
        }

        int remove(int sheet) {
            sorts[sheet] = NONE;
            sizes[sheet] = 0;
            return 1;
        }

        int lay(int sheet, int sort, int n) {
            sorts[sheet] = sort;
            sizes[sheet] = n;
            Arrays.fill(rows[sheet], 0);
            return 1;
        }

        int write(int sheet, int i, int v) {
            rows[sheet][i] = narrowed(sorts[sheet], v);
            return 1;
        }

        private static int narrowed(int sort, int v) {
            switch (sort) {
                case BYTES: return (byte) v;
                case SHORTS: return (short) v;
                default: return v;
            }
        }

        int tellCosts(int plot, int sheet, int from, int n) {
            int told = 0;
            for (int i = 0; i < n; i++) {
                if (!hasPlaces(sheet, from + i, 1)) return OUTSIDE;
                int cost = rows[sheet][from + i];
                if (isPlot(plot + i) && within(cost, LEAST_TOLD[COST], MOST_TOLD[COST])) {
                    land.tell(plot + i, COST, cost);
                    told++;
                }
            }
            return told;
        }
    }
}
