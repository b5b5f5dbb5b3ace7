import java.lang.reflect.Method;
import java.lang.reflect.Modifier;
import java.util.ArrayList;
import java.util.Arrays;
import java.util.Comparator;
import java.util.LinkedHashMap;
import java.util.List;
import java.util.Map;
import java.util.Random;

/** Long runs of any calls: each answer beside that of a slow model that follows the document's words. */
public final class RandomRunsTest {
    private static final int RUNS = 600, TEXTS = 20000, CALLS = 512, PLENTY = 24;
    /** Every third run is of all calls, the others of those about leaves or about ways. */
    private static final List<String> OF_LEAVES = List.of("pass", "sell", "heir", "leave", "leaveTold", "renew",
        "appeal", "undo", "has", "yearly", "claim", "due", "spanTold", "asking", "toAsk", "count", "taken");
    private static final List<String> OF_WAYS = List.of("pass", "sell", "owner", "set", "hold", "way", "couldAsk",
        "sheet", "cell", "copy", "costs");
    private static final int BAD = -2, STATE = -3, FULL = -4;
    private static final long NO = -4611686018427387904L;

    // ---- the model

    private static final class Fault extends RuntimeException {
        private static final long serialVersionUID = 1L;
        final int place;

        Fault(int place) {
            super(null, null, false, false);
            this.place = place;
        }
    }

    private record Sale(int plot, int owner, int day) { }

    private record Trees(int high, int grow, int day) { }

    private record Look(int plot, int p, int d) { }

    private record Claim(int owner, int span, int much) { }

    private static final class Span {
        int plot, length, height, heat = 20, ask = 1;
    }

    private static final class Leave {
        int kind, span, sum, day, on, renewed, undone = -1;
        boolean appealed;
    }

    private static final class Sheet {
        int sort;
        int[] row;
    }

    private record Way(int cost, List<Integer> plots) implements Comparable<Way> {
        public int compareTo(Way o) {
            if (cost != o.cost) return Integer.compare(cost, o.cost);
            if (plots.size() != o.plots.size()) return Integer.compare(plots.size(), o.plots.size());
            for (int i = 0; i < plots.size(); i++) {
                int c = plots.get(i).compareTo(o.plots.get(i));
                if (c != 0) return c;
            }
            return 0;
        }
    }

    /** Reads and values a TEXT at once, byte by byte, anew each time. */
    private static final class Text {
        final String s;
        final Map<String, Integer> names;
        final List<Integer> parts = new ArrayList<>();
        int at = 0;
        int open = 0;

        Text(String s, Map<String, Integer> names) {
            this.s = s;
            this.names = names;
            word("pays");
            parts.add(or());
            sign(';');
            word("sum");
            parts.add(or());
            sign(';');
            if (!next().isEmpty()) throw new Fault(at);
        }

        String next() {
            while (at < s.length() && (s.charAt(at) == ' ' || s.charAt(at) == '\n')) at++;
            if (at == s.length()) return "";
            int end = at;
            while (end < s.length() && s.charAt(end) >= 'a' && s.charAt(end) <= 'z') end++;
            if (end > at) return s.substring(at, end);
            while (end < s.length() && s.charAt(end) >= '0' && s.charAt(end) <= '9') end++;
            if (end > at) return s.substring(at, end);
            return s.substring(at, at + 1);
        }

        void word(String w) {
            if (!next().equals(w)) throw new Fault(at);
            at += w.length();
        }

        void sign(char c) {
            word(String.valueOf(c));
        }

        boolean skip(String w) {
            if (!next().equals(w)) return false;
            at += w.length();
            return true;
        }

        void opens(String w) {
            if (open == 5) throw new Fault(at);
            at += w.length();
            open++;
        }

        int or() {
            int v = and();
            while (skip("or")) {
                int w = and();
                v = v != 0 || w != 0 ? 1 : 0;
            }
            return v;
        }

        int and() {
            int v = not();
            while (skip("and")) {
                int w = not();
                v = v != 0 && w != 0 ? 1 : 0;
            }
            return v;
        }

        int not() {
            if (next().equals("not")) {
                opens("not");
                int v = not();
                open--;
                return v == 0 ? 1 : 0;
            }
            int v = sum();
            if (skip("<")) return v < sum() ? 1 : 0;
            if (skip("=")) return v == sum() ? 1 : 0;
            return v;
        }

        int sum() {
            int v = term();
            while (true) {
                if (skip("+")) v += term();
                else if (skip("-")) v -= term();
                else return v;
            }
        }

        int term() {
            int v = one();
            while (skip("*")) v *= one();
            return v;
        }

        int one() {
            String t = next();
            if (t.equals("(")) {
                opens(t);
                int v = or();
                sign(')');
                open--;
                return v;
            }
            if (t.equals("-")) {
                opens(t);
                int v = -one();
                open--;
                return v;
            }
            if (names.containsKey(t)) {
                at += t.length();
                return names.get(t);
            }
            if (!t.matches("[0-9]{1,4}")) throw new Fault(at);
            at += t.length();
            return Integer.parseInt(t);
        }
    }

    public static final class Model {
        int day = 0;
        final List<Sale> sales = new ArrayList<>();
        final int[][] shares = new int[10][10];
        final int[][] told = new int[4][48];
        final Trees[] planted = new Trees[48];
        final List<Integer> heights = new ArrayList<>();
        final List<Span> spans = new ArrayList<>();
        final List<Leave> leaves = new ArrayList<>();
        String tape = "";
        final List<String> texts = new ArrayList<>();
        int act = 0;
        final List<Claim> claims = new ArrayList<>();
        final List<Look> looks = new ArrayList<>();
        final int[] holds = new int[10];
        final Sheet[] sheets = new Sheet[4];

        public Model() {
            Arrays.fill(told[2], 10);
            texts.add("pays near < 6 ; sum 10 * span + worth ;");
        }

        static boolean is(int v, int least, int most) {
            return least <= v && v <= most;
        }

        boolean isSpan(int s) {
            return is(s, 0, spans.size() - 1);
        }

        boolean isLeave(int l) {
            return is(l, 0, leaves.size() - 1);
        }

        public int pass(int n) {
            if (!is(n, 1, 2000)) return BAD;
            if (day + n > 9999) return FULL;
            return day += n;
        }

        public int sell(int plot, int owner, int when) {
            if (!is(plot, 0, 47) || !is(owner, 0, 9) || !is(when, day, 9999)) return BAD;
            if (sales.size() == 40) return FULL;
            sales.add(new Sale(plot, owner, when));
            return sales.size();
        }

        public int owner(int plot, int when) {
            if (!is(plot, 0, 47) || !is(when, 0, 9999)) return BAD;
            return sales.stream().filter(s -> s.plot == plot && s.day <= when)
                .sorted(Comparator.comparingInt(Sale::day)).reduce((a, b) -> b).map(Sale::owner).orElse(0);
        }

        private final Map<Long, Integer> ownerCache = new LinkedHashMap<>();
        private int cachedSales = 0;

        int ownerFast(int plot, int when) {
            if (cachedSales != sales.size()) ownerCache.clear();
            cachedSales = sales.size();
            return ownerCache.computeIfAbsent(plot * 10000L + when, k -> owner(plot, when));
        }

        public int heir(int of, int owner, int n) {
            if (!is(of, 0, 9) || !is(owner, 0, 9) || !is(n, 0, 99) || of == owner) return BAD;
            int was = shares[of][owner];
            shares[of][owner] = n;
            return was;
        }

        public int set(int plot, int what, int v) {
            if (!is(plot, 0, 47) || !is(what, 0, 3)) return BAD;
            int least = what == 2 ? 1 : 0;
            int most = what == 0 ? 60 : what == 1 ? 9999 : what == 2 ? 999 : 1;
            if (!is(v, least, most)) return BAD;
            int was = told[what][plot];
            told[what][plot] = v;
            return was;
        }

        public int trees(int plot, int high, int grow) {
            if (!is(plot, 0, 47) || !is(high, 0, 40) || !is(grow, 0, 9)) return BAD;
            int was = high(plot);
            planted[plot] = new Trees(high, grow, day);
            return was;
        }

        public int high(int plot) {
            if (!is(plot, 0, 47)) return BAD;
            Trees t = planted[plot];
            if (t == null) return 0;
            int high = t.high;
            for (int d = t.day + 365; d <= day; d += 365) high += t.grow;
            return high;
        }

        public int tower(int plot, int height) {
            if (!is(plot, 0, 47) || !is(height, 10, 90)) return BAD;
            if (heights.size() == 16) return FULL;
            heights.add(height);
            return heights.size() - 1;
        }

        public int span(int a, int b, int plot, int length) {
            int most = heights.size() - 1;
            if (!is(a, 0, most) || !is(b, 0, most) || a == b || !is(plot, 0, 47) || !is(length, 50, 600)) return BAD;
            if (spans.size() == 16) return FULL;
            Span s = new Span();
            s.plot = plot;
            s.length = length;
            s.height = Math.min(heights.get(a), heights.get(b));
            spans.add(s);
            return spans.size() - 1;
        }

        public int heat(int span, int heat) {
            if (!isSpan(span) || !is(heat, -20, 90)) return -100;
            int was = spans.get(span).heat;
            spans.get(span).heat = heat;
            return was;
        }

        int sag(Span s) {
            int sag = s.length * s.length / 10000 + s.length * (s.heat - 20) / 1000;
            return sag < 0 ? 0 : sag;
        }

        int near(Span s) {
            return s.height - sag(s) - Math.max(told[0][s.plot], high(s.plot));
        }

        public long spanTold(int span, int what) {
            if (!isSpan(span) || !is(what, 0, 7)) return NO;
            Span s = spans.get(span);
            long[] all = {s.plot, s.length, sag(s), s.height - sag(s), near(s), near(s) < 6 ? 1 : 0, 0, s.ask};
            return what == 6 ? ends(span) : all[what];
        }

        int ends(int span) {
            for (int d = day; d <= 9999; d++) {
                if (has(span, d) == 0) return d;
            }
            return -1;
        }

        public int leave(int kind, int span, int sum, int when, int on) {
            if (!is(kind, 0, 5) || !isSpan(span) || !is(sum, 0, 99999) || !is(when, day, 9999)) return BAD;
            if (on != -1 && !(isLeave(on) && leaves.get(on).span == span)) return BAD;
            if (leaves.size() == 24) return FULL;
            Leave l = new Leave();
            l.kind = kind;
            l.span = span;
            l.sum = sum;
            l.day = when;
            l.on = on;
            leaves.add(l);
            return leaves.size() - 1;
        }

        static int lasts(int kind) {
            switch (kind) {
                case 0: return 365;
                case 1: return 9999;
                case 2: return 15 * lasts(0);
                case 3: return lasts(1);
                case 4: return 5 * lasts(0);
                default: return lasts(2) / 3;
            }
        }

        static int binds(int kind) {
            switch (kind) {
                case 0: return 0;
                case 2: return binds(0);
                case 3: return binds(1);
                case 5: return binds(2);
                default: return 1;
            }
        }

        static int yearlyOf(int kind, int sum) {
            switch (kind) {
                case 0: return sum / 15;
                case 1: return 0;
                case 2: return 2 * yearlyOf(0, sum);
                case 3: return sum / 100;
                case 4: return yearlyOf(2, sum) / 2;
                default: return yearlyOf(2, sum);
            }
        }

        int lasts(Leave l) {
            return lasts(l.kind) + l.renewed * lasts(l.kind);
        }

        boolean inForce(Leave l, int d) {
            int plot = spans.get(l.span).plot;
            return d >= l.day && d - l.day < lasts(l)
                && (l.undone == -1 || d < l.undone)
                && (binds(l.kind) == 1 || ownerFast(plot, d) == ownerFast(plot, l.day))
                && (l.on == -1 || inForce(leaves.get(l.on), d));
        }

        public int leaveTold(int leave, int what) {
            if (!isLeave(leave) || !is(what, 0, 8)) return BAD;
            Leave l = leaves.get(leave);
            int[] all = {l.kind, l.span, l.day, lasts(l), binds(l.kind), yearlyOf(l.kind, l.sum),
                inForce(l, day) ? 1 : 0, l.undone, l.appealed ? 1 : 0};
            return all[what];
        }

        public int renew(int leave) {
            if (!isLeave(leave)) return BAD;
            Leave l = leaves.get(leave);
            if (l.kind == 4) return -13;
            if (l.renewed == 5) return STATE;
            return ++l.renewed;
        }

        public int appeal(int leave) {
            if (!isLeave(leave)) return BAD;
            Leave l = leaves.get(leave);
            if (l.kind != 4) return -13;
            if (l.appealed || day < l.day || day > l.day + 42) return STATE;
            l.appealed = true;
            return 1;
        }

        boolean hangs(Leave l, int on) {
            return l.on != -1 && (l.on == on || hangs(leaves.get(l.on), on));
        }

        public int undo(int leave, int when) {
            if (!isLeave(leave) || !is(when, 0, 9999) || when < leaves.get(leave).day) return BAD;
            Leave l = leaves.get(leave);
            if (l.kind != 4) return -13;
            if (!l.appealed || l.undone != -1) return STATE;
            l.undone = when;
            return (int) leaves.stream().filter(o -> hangs(o, leave)).count();
        }

        public int has(int span, int when) {
            if (!isSpan(span) || !is(when, 0, 9999)) return BAD;
            boolean order = false;
            for (Leave l : leaves) {
                if (l.span != span || !inForce(l, when)) continue;
                if (l.kind != 4) return 1;
                order = true;
            }
            return order ? 2 : 0;
        }

        long parted(long[] paid, int owner) {
            long mine = 0;
            for (int of = 0; of < 10; of++) {
                long all = Arrays.stream(shares[of]).sum();
                if (all == 0) {
                    if (of == owner) mine += paid[of];
                    continue;
                }
                long[] parts = new long[10];
                long left = paid[of];
                for (int h = 0; h < 10; h++) left -= parts[h] = paid[of] * shares[of][h] / all;
                int least = 0;
                while (shares[of][least] == 0) least++;
                parts[least] += left;
                mine += parts[owner];
            }
            return mine;
        }

        public long yearly(int owner, int when) {
            if (!is(owner, 0, 9) || !is(when, 0, 9999)) return NO;
            long[] paid = new long[10];
            for (Leave l : leaves) {
                if (inForce(l, when)) paid[owner(spans.get(l.span).plot, when)] += yearlyOf(l.kind, l.sum);
            }
            return parted(paid, owner);
        }

        public int feed(int n, long bytes) {
            if (!is(n, 1, 8)) return BAD;
            if (tape.length() + n > 160) return FULL;
            for (int i = 0; i < n; i++) {
                tape += (char) (bytes & 255);
                bytes >>= 8;
            }
            return tape.length();
        }

        Map<String, Integer> names(int span) {
            Map<String, Integer> names = new LinkedHashMap<>();
            Span s = span < 0 ? null : spans.get(span);
            names.put("day", day);
            names.put("span", s == null ? 0 : s.length);
            names.put("near", s == null ? 0 : near(s));
            names.put("trees", s == null ? 0 : high(s.plot));
            names.put("house", s == null ? 0 : told[0][s.plot]);
            names.put("worth", s == null ? 0 : told[1][s.plot]);
            return names;
        }

        public int text() {
            if (texts.size() == 6) return FULL;
            String s = tape;
            tape = "";
            try {
                new Text(s, names(-1));
            } catch (Fault f) {
                return -100 - f.place;
            }
            texts.add(s);
            return texts.size() - 1;
        }

        public int force(int text) {
            if (!is(text, 0, texts.size() - 1)) return BAD;
            int was = act;
            act = text;
            return was;
        }

        public long says(int span, int part) {
            if (!isSpan(span) || !is(part, 0, 1)) return NO;
            return new Text(texts.get(act), names(span)).parts.get(part);
        }

        public int claim(int owner, int span, int much) {
            if (!is(owner, 0, 9) || !isSpan(span) || !is(much, 0, 99999)) return BAD;
            if (claims.size() == 30) return FULL;
            claims.add(new Claim(owner, span, much));
            return claims.size() - 1;
        }

        boolean isDoubled(int i) {
            Claim c = claims.get(i);
            return claims.subList(0, i).stream().anyMatch(e -> e.owner == c.owner && e.span == c.span);
        }

        public int doubled() {
            int bits = 0;
            for (int i = 0; i < claims.size(); i++) bits += isDoubled(i) ? 1 << i : 0;
            return bits;
        }

        public long due(int owner) {
            if (!is(owner, 0, 9)) return NO;
            long[] paid = new long[10];
            for (int i = 0; i < claims.size(); i++) {
                Claim c = claims.get(i);
                if (isDoubled(i) || has(c.span, day) == 1) continue;
                paid[c.owner] += Math.min(c.much, Math.max(0, says(c.span, 1)));
            }
            return parted(paid, owner);
        }

        public int look(int plot, int p, int d) {
            if (!is(plot, 0, 47) || !is(p, 0, 99999) || !is(d, 0, 50)) return BAD;
            if (looks.size() == 20) return FULL;
            looks.add(new Look(plot, p, d));
            return looks.size();
        }

        public int bounds(int plot, int what) {
            if (!is(plot, 0, 47) || !is(what, 0, 1)) return -5;
            List<Look> own = looks.stream().filter(l -> l.plot == plot).toList();
            if (own.isEmpty()) return -1;
            int lower = own.stream().mapToInt(l -> l.p - l.p * l.d / 100).max().getAsInt();
            int upper = own.stream().mapToInt(l -> l.p + l.p * l.d / 100).min().getAsInt();
            return lower > upper ? -2 : what == 0 ? lower : upper;
        }

        public int hold(int owner, int n) {
            if (!is(owner, 0, 9) || !is(n, 0, 9999)) return BAD;
            int was = holds[owner];
            holds[owner] = n;
            return was;
        }

        Way best(int from, int to, boolean[] barred, int[] hold) {
            Way[] best = new Way[48];
            if (barred[to]) return null;
            boolean changed = true;
            while (changed) {
                changed = false;
                for (int p = 0; p < 48; p++) {
                    if (barred[p]) continue;
                    int cost = told[2][p] + hold[owner(p, day)];
                    Way w = p == to ? new Way(cost, List.of(p)) : null;
                    for (int q = 0; q < 48; q++) {
                        boolean beside = Math.abs(p % 8 - q % 8) + Math.abs(p / 8 - q / 8) == 1;
                        if (!beside || best[q] == null || best[q].plots.contains(p)) continue;
                        List<Integer> plots = new ArrayList<>(List.of(p));
                        plots.addAll(best[q].plots);
                        Way v = new Way(cost + best[q].cost, plots);
                        if (w == null || v.compareTo(w) < 0) w = v;
                    }
                    if (w != null && (best[p] == null || w.compareTo(best[p]) != 0)) {
                        best[p] = w;
                        changed = true;
                    }
                }
            }
            return best[from];
        }

        boolean[] bars(int without) {
            boolean[] bars = new boolean[48];
            for (int p = 0; p < 48; p++) bars[p] = told[3][p] == 1 || owner(p, day) == without;
            return bars;
        }

        public int way(int from, int to, int i) {
            if (!is(from, 0, 47) || !is(to, 0, 47)) return BAD;
            Way w = best(from, to, bars(-1), holds);
            if (w == null || i < -1 || i >= w.plots.size()) return -1;
            return i == -1 ? w.cost : w.plots.get(i);
        }

        public int couldAsk(int owner, int from, int to) {
            if (!is(owner, 0, 9) || !is(from, 0, 47) || !is(to, 0, 47)) return BAD;
            if (owner(from, day) == owner || owner(to, day) == owner) return -1;
            Way without = best(from, to, bars(owner), holds);
            if (without == null) return -1;
            int[] hold = holds.clone();
            hold[owner] = 0;
            return without.cost - best(from, to, bars(-1), hold).cost;
        }

        public int asking(int span, int days) {
            if (!isSpan(span) || !is(days, 1, 60)) return BAD;
            int was = spans.get(span).ask;
            spans.get(span).ask = days;
            return was;
        }

        private List<Integer> bestOrder;
        private long bestWeight;
        private int[] endOf;

        void tryOrders(List<Integer> order, List<Integer> rest) {
            if (rest.isEmpty()) {
                long done = day, sum = 0, late = 0;
                for (int s : order) {
                    done += spans.get(s).ask;
                    sum += done;
                    if (endOf[s] != -1 && done > endOf[s]) late++;
                }
                long weight = late * 1000000L + sum;
                if (bestOrder == null || weight < bestWeight) {
                    bestOrder = new ArrayList<>(order);
                    bestWeight = weight;
                }
            }
            for (int i = 0; i < rest.size(); i++) {
                int s = rest.remove(i);
                order.add(s);
                tryOrders(order, rest);
                order.remove(order.size() - 1);
                rest.add(i, s);
            }
        }

        public int toAsk(int bits, int i) {
            List<Integer> asked = new ArrayList<>();
            for (int b = 0; b < 32; b++) {
                if ((bits >> b & 1) == 0) continue;
                if (!isSpan(b)) return BAD;
                asked.add(b);
            }
            if (asked.size() > 6) return BAD;
            endOf = new int[16];
            for (int s : asked) endOf[s] = ends(s);
            bestOrder = null;
            tryOrders(new ArrayList<>(), asked);
            if (i == -1) return (int) (bestWeight / 1000000L);
            return is(i, 0, bestOrder.size() - 1) ? bestOrder.get(i) : -1;
        }

        public int count(int what) {
            if (!is(what, 0, 11)) return BAD;
            int bare = 0, tooNear = 0;
            for (int s = 0; s < spans.size(); s++) {
                if (has(s, day) == 0) bare++;
                if (near(spans.get(s)) < 6) tooNear++;
            }
            int[] all = {day, sales.size(), heights.size(), spans.size(), leaves.size(), claims.size(), looks.size(),
                texts.size(), tape.length(), act, bare, tooNear};
            return all[what];
        }

        public int sheet(int sheet, int sort, int n) {
            if (!is(sheet, 0, 3) || !is(sort, -1, 2)) return BAD;
            if (sort == -1) {
                sheets[sheet] = null;
                return 1;
            }
            if (n > 40) return BAD;
            if (n < 0) return -14;
            sheets[sheet] = new Sheet();
            sheets[sheet].sort = sort;
            sheets[sheet].row = new int[n];
            return 1;
        }

        public int cell(int sheet, int i, int v) {
            if (!is(sheet, 0, 3)) return BAD;
            if (sheets[sheet] == null) return -11;
            if (!is(i, 0, sheets[sheet].row.length - 1)) return -12;
            int gone = sheets[sheet].sort == 0 ? 24 : sheets[sheet].sort == 1 ? 16 : 0;
            sheets[sheet].row[i] = v << gone >> gone;
            return 1;
        }

        public int copy(int sheet, int i, int other, int j, int n) {
            if (!is(sheet, 0, 3) || !is(other, 0, 3)) return BAD;
            if (sheets[sheet] == null || sheets[other] == null) return -11;
            if (sheets[sheet].sort != sheets[other].sort) return -13;
            int[] from = sheets[sheet].row.clone();
            int[] to = sheets[other].row;
            if (n < 0 || i < 0 || j < 0 || (long) i + n > from.length || (long) j + n > to.length) return -12;
            for (int k = 0; k < n; k++) to[j + k] = from[i + k];
            return n;
        }

        public int costs(int plot, int sheet, int sort, int from, int n) {
            if (!is(plot, 0, 47) || !is(sheet, 0, 3) || !is(sort, 0, 2) || !is(n, 0, 40)) return BAD;
            if (sheets[sheet] != null && sheets[sheet].sort != sort) return -13;
            if (sheets[sheet] == null) return -11;
            int told = 0;
            for (int k = 0; k < n; k++) {
                long place = (long) from + k;
                if (place < 0 || place >= sheets[sheet].row.length) return -12;
                if (set(plot + k, 2, sheets[sheet].row[(int) place]) != BAD) told++;
            }
            return told;
        }

        public int taken(int leave, int k) {
            if (!is(k, 0, 5)) return BAD;
            if (!isLeave(leave)) return -11;
            String[] above = {"0", "10", "20", "310", "420", "520"};
            Leave l = leaves.get(leave);
            return above[l.kind].indexOf('0' + k) >= 0 ? l.span : -13;
        }
    }

    // ---- the runs

    private static final Random random = new Random(20261118);

    /** For each call: its weight, then least and most of each argument as it is mostly drawn. */
    private static int[] drawn(String call) {
        switch (call) {
            case "pass": return new int[] {3, 1, 60};
            case "sell": return new int[] {4, 6, 14, 0, 4, -9, -9};
            case "owner": return new int[] {3, 6, 14, -9, -9};
            case "heir": return new int[] {3, 0, 6, 0, 6, 0, 9};
            case "set": return new int[] {8, 0, 47, 0, 3, 0, 70};
            case "trees": return new int[] {4, 6, 14, 0, 20, 0, 9};
            case "high": return new int[] {2, 6, 14};
            case "tower": return new int[] {3, 0, 47, 20, 90};
            case "span": return new int[] {6, 0, 5, 0, 5, 6, 14, 50, 500};
            case "heat": return new int[] {3, 0, 8, -20, 90};
            case "spanTold": return new int[] {5, 0, 8, 0, 7};
            case "leave": return new int[] {7, 0, 5, 0, 4, 0, 9999, -9, -9, -1, -1};
            case "leaveTold": return new int[] {8, -8, -8, 0, 8};
            case "renew": return new int[] {3, -8, -8};
            case "appeal": return new int[] {8, -8, -8};
            case "undo": return new int[] {8, -8, -8, -9, -9};
            case "has": return new int[] {6, 0, 5, -9, -9};
            case "yearly": return new int[] {6, 0, 6, -9, -9};
            case "feed": return new int[] {1, 1, 8, 0, 0};
            case "text": return new int[] {2};
            case "force": return new int[] {2, 0, 5};
            case "says": return new int[] {4, 0, 8, 0, 1};
            case "claim": return new int[] {4, 0, 6, 0, 5, 0, 9999};
            case "doubled": return new int[] {2};
            case "due": return new int[] {4, 0, 6};
            case "look": return new int[] {4, 6, 14, 900, 1100, 0, 50};
            case "bounds": return new int[] {3, 6, 14, 0, 1};
            case "hold": return new int[] {3, 0, 5, 0, 60};
            case "way": return new int[] {6, 0, 47, 0, 47, -1, 7};
            case "couldAsk": return new int[] {6, 0, 5, 0, 23, 0, 23};
            case "asking": return new int[] {4, 0, 8, 1, 60};
            case "toAsk": return new int[] {4, 0, 127, -1, 4};
            case "count": return new int[] {3, 0, 11};
            case "sheet": return new int[] {3, 0, 3, -1, 2, 0, 40};
            case "cell": return new int[] {6, 0, 3, 0, 30, 0, 300};
            case "copy": return new int[] {4, 0, 3, 0, 9, 0, 3, 0, 9, 0, 20};
            case "costs": return new int[] {4, 0, 47, 0, 3, 0, 2, 0, 9, 0, 20};
            default: return new int[] {4, -8, -8, 0, 5};
        }
    }

    /** Of a least -9 a DAY about the one that is, of -8 the number of a LEAVE. */
    private static int argument(int least, int most, int day, int leaves) {
        int way = random.nextInt(60);
        if (way == 0) return random.nextInt();
        if (way == 1) return new int[] {Integer.MIN_VALUE, Integer.MAX_VALUE, -1, 0, 10000, 9999}[random.nextInt(6)];
        if (least == -9) {
            if (way < 8) return random.nextInt(10002) - 1;
            return day + random.nextInt(way < 40 ? 30 : 2500) - (way < 18 ? 20 : 0);
        }
        if (least == -8) return random.nextInt(leaves + 1) - (way == 2 ? 1 : 0);
        if (way == 2) return least - 1 - random.nextInt(2);
        if (way == 3) return most + 1 + random.nextInt(2);
        return least + random.nextInt(most - least + 1);
    }

    private static String expression(int depth) {
        String[] names = {"day", "span", "near", "trees", "house", "worth"};
        int way = random.nextInt(depth > 0 ? 14 : 4);
        if (way < 2) return String.valueOf(random.nextInt(random.nextBoolean() ? 10 : 10000));
        if (way < 4) return names[random.nextInt(6)];
        String one = expression(depth - 1);
        if (way == 4) return "not " + one;
        if (way == 5) return "-" + one;
        if (way < 8) return "(" + one + ")";
        String[] signs = {" or ", " and ", "<", "=", "+", "-", "*", " + ", "\n* "};
        return one + signs[random.nextInt(9)] + expression(depth - 1);
    }

    private static String text() {
        String s = "pays " + expression(random.nextInt(5)) + (random.nextBoolean() ? " ;" : ";")
            + "sum " + expression(random.nextInt(6)) + ";" + (random.nextInt(4) == 0 ? " \n" : "");
        StringBuilder b = new StringBuilder(s);
        if (random.nextInt(3) == 0) {
            int place = random.nextInt(b.length());
            String odd = "()-;+*<= \nan9\t?{`/:>" + (char) 200;
            int way = random.nextInt(3);
            if (way == 0) b.deleteCharAt(place);
            if (way == 1) b.insert(place, odd.charAt(random.nextInt(odd.length())));
            if (way == 2) b.setLength(place);
        }
        if (b.length() > 160) b.setLength(160);
        return b.toString();
    }

    private static final class Run {
        final WayLeaves x = new WayLeaves();
        final Model model = new Model();
        final List<String> calls = new ArrayList<>();

        boolean agrees(Method of, Object[] args) throws ReflectiveOperationException {
            Object want = Model.class.getMethod(of.getName(), of.getParameterTypes()).invoke(model, args);
            Object got;
            try {
                got = of.invoke(x, args);
            } catch (java.lang.reflect.InvocationTargetException e) {
                got = e.getCause();
            }
            calls.add(of.getName() + Arrays.toString(args) + " -> " + got);
            if (want.equals(got)) return true;
            System.out.println("due is " + want + " for the last of");
            for (String call : calls) System.out.println("  " + call);
            return false;
        }

        Object[] arguments(Method of, int[] drawn) {
            Class<?>[] types = of.getParameterTypes();
            Object[] args = new Object[types.length];
            for (int i = 0; i < args.length; i++) {
                if (types[i] == long.class) args[i] = random.nextLong();
                else args[i] = argument(drawn[1 + 2 * i], drawn[2 + 2 * i], model.day, model.leaves.size());
            }
            if (of.getName().equals("leave") && random.nextInt(3) > 0 && !model.leaves.isEmpty()) {
                int on = random.nextInt(model.leaves.size());
                args[4] = on;
                if (random.nextInt(8) > 0) args[1] = model.leaves.get(on).span;
                if (random.nextInt(3) == 0) args[0] = 4;
            }
            if (of.getName().equals("undo") && random.nextInt(3) > 0 && model.isLeave((int) args[0])) {
                args[1] = Math.max(model.leaves.get((int) args[0]).day, (int) args[1]);
            }
            return args;
        }

        boolean feedsText(Method feed, Method text) throws ReflectiveOperationException {
            if (!model.tape.isEmpty() && !agrees(text, new Object[0])) return false;
            String s = text();
            for (int i = 0; i < s.length(); i += 8) {
                int n = Math.min(8, s.length() - i);
                long bytes = random.nextLong();
                for (int k = n - 1; k >= 0; k--) bytes = bytes << 8 | s.charAt(i + k);
                if (!agrees(feed, new Object[] {n, bytes})) return false;
            }
            return agrees(text, new Object[0]);
        }
    }

    private static boolean goodRun(List<Method> bag, Map<String, Method> byName) throws ReflectiveOperationException {
        Run run = new Run();
        for (int i = 0; i < 4; i++) {
            if (!run.agrees(byName.get("tower"), new Object[] {i, 20 + 10 * i})) return false;
        }
        for (int i = 0; i < 7; i++) {
            if (!run.agrees(byName.get("span"), new Object[] {i % 4, (i + 1) % 4, 8 + i, 50 + 90 * i})) return false;
        }
        while (run.calls.size() < CALLS - PLENTY - 2) {
            Method of = bag.get(random.nextInt(bag.size()));
            boolean agrees = of.getName().equals("text") && random.nextInt(3) > 0
                ? run.feedsText(byName.get("feed"), of) : run.agrees(of, run.arguments(of, drawn(of.getName())));
            if (!agrees) return false;
        }
        return true;
    }

    /** One TEXT on a new object: its FAULT, or what both parts of it come to. */
    private static boolean goodText(Map<String, Method> byName) throws ReflectiveOperationException {
        Run run = new Run();
        Object[][] start = {{1, 40}, {2, 30}, {0, 1, 8, 100}, {8, 12, 3}, {8, 0, 5}, {8, 1, 700}, {900}};
        String[] calls = {"tower", "tower", "span", "trees", "set", "set", "pass"};
        for (int i = 0; i < calls.length; i++) {
            if (!run.agrees(byName.get(calls[i]), start[i])) return false;
        }
        if (!run.feedsText(byName.get("feed"), byName.get("text"))) return false;
        return run.agrees(byName.get("force"), new Object[] {1})
            && run.agrees(byName.get("says"), new Object[] {0, 0})
            && run.agrees(byName.get("says"), new Object[] {0, 1});
    }

    public static void main(String[] args) throws ReflectiveOperationException {
        List<Method> bag = new ArrayList<>();
        Map<String, Method> byName = new LinkedHashMap<>();
        Method[] all = WayLeaves.class.getDeclaredMethods();
        Arrays.sort(all, Comparator.comparing(Method::getName));
        for (Method m : all) {
            if (!Modifier.isPublic(m.getModifiers())) continue;
            byName.put(m.getName(), m);
            for (int i = 0; i < drawn(m.getName())[0]; i++) bag.add(m);
        }
        int runs = args.length > 0 ? Integer.parseInt(args[0]) : RUNS;
        for (int run = 0; run < runs; run++) {
            List<String> names = run % 3 == 0 ? new ArrayList<>(byName.keySet()) : run % 3 == 1 ? OF_LEAVES : OF_WAYS;
            List<Method> of = bag.stream().filter(m -> names.contains(m.getName())).toList();
            if (!goodRun(of, byName)) {
                System.out.println("run " + run + " is not as due");
                System.exit(1);
            }
        }
        for (int text = 0; text < TEXTS; text++) {
            if (!goodText(byName)) System.exit(1);
        }
        System.out.println(runs + " runs and " + TEXTS + " texts, all answers are as due");
    }
}
