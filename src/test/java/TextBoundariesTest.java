/** Each sentence that names a boundary case of texts, claims, looks (promises 20 to 28). */
public final class TextBoundariesTest extends Checks {
    // ---- promises 20 to 23: texts

    private static void feedBoundaries() {
        limits(BAD, (x, a) -> x.feed(a[0], 0x3131313131313131L), new int[] {1}, 1, 8);
        refused(FULL, Fill::tape, x -> x.feed(1, ' '));
        refused(FULL, Fill::tape, x -> x.feed(8, -1L));
        refused(BAD, Fill::tape, x -> x.feed(0, ' '));
        refused(BAD, Fill::tape, x -> x.feed(9, ' '));
        for (int free = 1; free < 8; free++) {
            WayLeaves x = new WayLeaves();
            feed(x, " ".repeat(160 - free));
            due(FULL, x.feed(free + 1, 0x2020202020202020L));
            due(160 - free, x.count(8));
            due(160, x.feed(free, 0x2020202020202020L));
            due(FULL, x.feed(1, ' '));
            due(-260, x.text());
            due(0, x.count(8));
        }
    }

    private static void feedBytes() {
        // Only the n lowest bytes come, the lowest first, also with the highest bit of all set.
        String s = "pays 1;;";
        long bytes = 0;
        for (int k = 7; k >= 0; k--) bytes = bytes << 8 | s.charAt(k);
        for (int n = 1; n <= 8; n++) {
            WayLeaves x = new WayLeaves();
            due(n, x.feed(n, n == 8 ? bytes : bytes | -1L << 8 * n));
            due(-100 - (n < 4 ? 0 : n == 4 ? 4 : n < 7 ? n : 7), x.text());
        }
        WayLeaves x = new WayLeaves();
        due(8, x.feed(8, Long.MIN_VALUE));
        due(-100, x.text());
        due(8, x.feed(8, 0x8031207379617020L));
        due(-107, x.text());
        due(8, x.feed(8, -1L));
        due(-100, x.text());
    }

    private static void textTillFull() {
        WayLeaves x = withSpans(8);
        for (int n = 1; n < 6; n++) {
            due(n, text(x, "pays " + n + ";sum 10" + n + ";"));
            due(0, x.count(8));
            due(n + 1, x.count(7));
        }
        // FULL is ahead of all: of a FAULT, of an empty TAPE; THE TAPE stays.
        due(FULL, x.text());
        due(0, x.count(8));
        due(7, feed(x, "pays 1;"));
        due(FULL, x.text());
        due(7, x.count(8));
        due(13, feed(x, "sum 2;"));
        due(FULL, x.text());
        due(13, x.count(8));
        due(6, x.count(7));
        for (int n = 1; n < 6; n++) {
            due(n - 1, x.force(n));
            due(n, x.says(0, 0));
            due(100 + n, x.says(0, 1));
        }
        refused(FULL, Fill::texts, WayLeaves::text);
        refused(FULL, y -> {
            Fill.texts(y);
            feed(y, "sum 2;");
        }, WayLeaves::text);
    }

    private static void tapeByFault() {
        // By a FAULT, too, THE TAPE is empty, and nothing else has changed.
        WayLeaves x = withSpans(8);
        due(1, text(x, "pays 1;sum 77;"));
        for (int n = 0; n < 8; n++) {
            due(-107, text(x, "pays 1;some 2;"));
            due(0, x.count(8));
            due(2, x.count(7));
            due(0, x.count(9));
        }
        due(-100, x.text());
        due(2, text(x, "pays 1;sum 78;"));
        x.force(1);
        due(77, x.says(0, 1));
        x.force(2);
        due(78, x.says(0, 1));
    }

    private static void ends160() {
        // A TEXT that fills THE TAPE, with and without blanks at its end; one byte is missing.
        String head = "pays 1;sum 1234";
        String full = head + " ".repeat(160 - head.length() - 1);
        WayLeaves x = withSpans(8);
        due(160, feed(x, full + ";"));
        due(1, x.text());
        due(160, feed(x, full + "-"));
        due(-260, x.text());
        due(160, feed(x, full + " "));
        due(-260, x.text());
        due(160, feed(x, head + ";" + " ".repeat(160 - head.length() - 1)));
        due(2, x.text());
        due(160, feed(x, " ".repeat(160 - head.length() - 1) + head + ";"));
        due(3, x.text());
        due(160, feed(x, full + "a"));
        due(-259, x.text());
        due(160, feed(x, full.substring(0, 158) + " 2"));
        due(-259, x.text());
        due(160, feed(x, full + "+"));
        due(-260, x.text());
        due(160, feed(x, full.substring(0, 158) + "+2"));
        due(-260, x.text());
        // What an earlier TEXT left behind the end does not count.
        due(-105, text(x, "pays 12345;sum 1;"));
        due(-106, text(x, "pays 1"));
        due(-105, text(x, "pays nearer;sum 1;"));
        due(-109, text(x, "pays near"));
    }

    private static void tooEarly() {
        // However early it ends, the FAULT is at the text's size, blanks at its end with it.
        String[] tokens = {"pays", "not", "(", "-", "near", "+", "1", "*", "2", "<", "3", ")", ";", "sum", "9999", ";"};
        StringBuilder s = new StringBuilder();
        for (String token : tokens) {
            due(s.length(), fault(s.toString()));
            due(s.length() + 1, fault(s + " "));
            due(s.length() + 3, fault(s + "\n \n"));
            s.append(token).append(token.matches("[a-z]+") ? "\n" : "");
        }
        due(-101, fault(s.toString()));
        due(-101, fault(s + " \n"));
    }

    private static void words() {
        String[] names = {"day", "span", "near", "trees", "house", "worth"};
        for (String name : names) {
            due(-101, fault("pays " + name + ";sum 1;"));
            for (char c : new char[] {'a', 's', 'z'}) {
                due(5, fault("pays " + name + c + ";sum 1;"));
                due(5, fault("pays " + c + name + ";sum 1;"));
            }
            due(5, fault("pays " + name.substring(1) + ";sum 1;"));
            due(5, fault("pays " + name.substring(0, name.length() - 1) + ";sum 1;"));
            due(5, fault("pays " + name.toUpperCase() + ";sum 1;"));
            for (char c : new char[] {'`', '{', '_', 'A', 'Z', 0, 9, 127, 128, 225, 255}) {
                due(5 + name.length(), fault("pays " + name + c + ";sum 1;"));
            }
            due(5 + name.length(), fault("pays " + name + "1;sum 1;"));
        }
        for (String key : new String[] {"pays", "sum", "or", "and"}) due(5, fault("pays " + key + ";sum 1;"));
        due(8, fault("pays not;sum 1;"));
        for (String key : new String[] {"pays", "sum", "not"}) due(7, fault("pays 1 " + key + " 1;sum 1;"));
        // TOKENS as long as can be: no blank is needed where none can be part of the other.
        due(-101, fault("pays 1or 2and 3;sum not 1;"));
        due(-101, fault("pays(near)or(1)and not(2);sum-1;"));
        due(16, fault("pays 1 or2and 3;sumx 1;"));
        due(0, fault("pay s 1;sum 1;"));
        due(0, fault("a"));
        due(0, fault("z"));
        due(0, fault("z".repeat(159)));
    }

    private static void numbers() {
        due(-101, fault("pays 9999;sum 0;"));
        due(-101, fault("pays 0000;sum 0;"));
        due(5, fault("pays 10000;sum 0;"));
        due(5, fault("pays 00000;sum 0;"));
        due(7, fault("pays 1+12345;sum 0;"));
        due(10, fault("pays 9999 9999;sum 0;"));
        due(11, fault("pays 1;sum 99999"));
        due(9999, sum("9999"));
        due(1000, sum("1000"));
        due(7, sum("0007"));
        due(0, sum("0"));
    }

    private static void signs() {
        // Each byte on its own behind a NUMBER: what can't stand there, what begins no TOKEN, what goes on.
        for (int b = 0; b < 256; b++) {
            boolean blank = b == 32 || b == 10;
            boolean sign = b == '+' || b == '-' || b == '*' || b == '<' || b == '=';
            boolean digit = b >= '0' && b <= '9';
            int place = blank || sign || digit ? -101 : b == ';' ? 7 : 6;
            due(place, fault("pays 1" + (char) b + (blank ? "" : "2") + ";sum 1;"));
        }
        // And where a ONE is to begin.
        for (int b = 0; b < 256; b++) {
            boolean good = b == 32 || b == 10 || b == '-' || b >= '0' && b <= '9';
            due(good ? -101 : b == '(' ? 7 : 5, fault("pays " + (char) b + "2;sum 1;"));
        }
    }

    private static void onceAlone() {
        // < and = stand once, of a SUM alone; not stands before all of it, and never within a SUM.
        for (String sign : new String[] {"<", "="}) {
            due(-101, fault("pays 1" + sign + "2;sum 1;"));
            due(8, fault("pays 1" + sign + "2<3;sum 1;"));
            due(8, fault("pays 1" + sign + "2=3;sum 1;"));
            due(-101, fault("pays (1" + sign + "2)<3;sum 1;"));
            due(-101, fault("pays 1" + sign + "(2=3);sum 1;"));
            due(-101, fault("pays 1" + sign + "2 or 3" + sign + "4 and 5" + sign + "6;sum 1;"));
            due(12, fault("pays not 1" + sign + "2" + sign + "3;sum 1;"));
            due(16, fault("pays not not 1" + sign + "2" + sign + "3;sum 1;"));
            due(7, fault("pays 1" + sign + "not 2;sum 1;"));
            due(7, fault("pays 1" + sign + ";sum 1;"));
            due(5, fault("pays " + sign + "1;sum 1;"));
        }
        due(6, fault("pays -not 1;sum 1;"));
        due(7, fault("pays 1*not 1;sum 1;"));
        due(-101, fault("pays -(not 1);sum 1*(not 1);"));
    }

    private static void open() {
        // ( , not and - in any mixture: the sixth that is open at once is the FAULT.
        for (int mixture = 0; mixture < 729; mixture++) {
            StringBuilder s = new StringBuilder("pays ");
            int closing = 0;
            int sixth = 0;
            boolean good = true;
            boolean inOne = false;
            int rest = mixture;
            for (int n = 0; n < 6; n++) {
                sixth = s.length();
                int way = rest % 3;
                rest /= 3;
                if (way == 0) s.append("(");
                if (way == 1) s.append("-");
                if (way == 2) s.append("not ");
                if (way == 2 && inOne) good = false;
                if (way == 0) closing++;
                inOne = way == 1;
                if (!good) break;
            }
            due(sixth, fault(s + "1" + ")".repeat(closing) + ";sum 1;"));
        }
        for (int mixture = 0; mixture < 243; mixture++) {
            String s = opened(mixture, 5);
            if (s != null) due(-101, fault("pays " + s + ";sum " + s + ";"));
        }
    }

    /** Five of ( , - and not about a NUMBER, or null where a not would follow a - . */
    private static String opened(int mixture, int n) {
        String s = "1";
        String outer = "";
        for (int rest = mixture, k = 0; k < n; k++, rest /= 3) {
            if (rest % 3 == 1 && outer.equals("not")) return null;
            outer = rest % 3 == 0 ? "(" : rest % 3 == 1 ? "-" : "not";
            s = rest % 3 == 0 ? "(" + s + ")" : rest % 3 == 1 ? "-" + s : "not " + s;
        }
        return s;
    }

    private static void openEnds() {
        // What has ended is open no longer: another one can be opened five deep behind it.
        String[] five = {"(((((1)))))", "-----1", "(-(-(1)))", "((((not 1))))", "(((-(1))))"};
        for (String s : five) {
            for (String sign : new String[] {"+", "*", "<", " or ", " and "}) {
                for (String t : five) {
                    due(-101, fault("pays " + s + sign + t + ";sum " + t + sign + s + ";"));
                }
            }
        }
        due(-101, fault("pays not not not not not 1 or not not not not not 1;sum 1;"));
        // A - ends with its ONE, a not with its NOT: ahead of that they are open.
        due(-101, fault("pays ((((-1*-1--1))));sum 1;"));
        due(10, fault("pays ((((-(1)))));sum 1;"));
        due(13, fault("pays ((((not -1))));sum 1;"));
        due(17, fault("pays ((((not 1+1*(1)))));sum 1;"));
        due(-101, fault("pays ((((not 1+1 or (1)))));sum 1;"));
        due(-101, fault("pays ((((-1+(1)))));sum 1;"));
    }

    private static void force() {
        limits(BAD, (x, a) -> x.force(a[0]), new int[] {1}, 0, 2);
        due(BAD, new WayLeaves().force(1));
        due(0, new WayLeaves().force(0));
        WayLeaves x = new WayLeaves();
        Fill.texts(x);
        due(0, x.force(5));
        due(5, x.count(9));
        due(BAD, x.force(6));
        due(5, x.force(0));
        due(0, x.count(9));
    }

    private static void says() {
        limits(NO, (x, a) -> x.says(a[0], a[1]), new int[] {1, 0}, 0, 3, 0, 1);
        due(NO, new WayLeaves().says(0, 0));
        // THE ACT of a new object, at its edge.
        WayLeaves x = withSpans(8);
        x.set(8, 0, 23);
        due(0, x.says(0, 0));
        x.set(8, 0, 24);
        due(1, x.says(0, 0));
        due(1000, x.says(0, 1));
        x.set(8, 1, 9999);
        due(10999, x.says(0, 1));
    }

    private static void wrapping() {
        String most = "9999*9999*21+9999*4790+8416";
        due(MAX, sum(most));
        due(MIN, sum(most + "+1"));
        due(MIN, sum("-(" + most + ")-1"));
        due(MAX, sum("-(" + most + ")-2"));
        due(MIN, sum("-(" + most + "+1)"));
        due(0, sum("(" + most + "+1)*2"));
        due(-2, sum("(" + most + ")*2"));
        due(1, sum(most + "+1<0"));
        due(1, sum("not " + most + "+1=0"));
        due(0, sum(most + "<" + most));
        due(1, sum(most + "=" + most));
        due(1, sum(most + "+1<" + most));
        due(1, sum("-(" + most + ")-1<" + most));
        due(1, sum(most + "+1 and 1"));
        due(0, sum("0-0"));
        due(-1530494976, sum("1000*1000*1000*1000*1000"));
    }

    private static void truth() {
        // What is not 0 is true, also below 0; or, and, not, <, = are 1 or 0.
        int[] values = {-2, -1, 0, 1, 2};
        for (int a : values) {
            due(a == 0 ? 1 : 0, sum("not " + number(a)));
            due(a == 0 ? 0 : 1, sum("not not " + number(a)));
            for (int b : values) {
                due(a != 0 || b != 0 ? 1 : 0, sum(number(a) + " or " + number(b)));
                due(a != 0 && b != 0 ? 1 : 0, sum(number(a) + " and " + number(b)));
                due(a < b ? 1 : 0, sum(number(a) + "<" + number(b)));
                due(a == b ? 1 : 0, sum(number(a) + "=" + number(b)));
            }
        }
    }

    private static String number(int v) {
        return v < 0 ? "-" + -v : "" + v;
    }

    // ---- promises 24 to 28: claims, looks

    private static void claim() {
        limits(BAD, (x, a) -> x.claim(a[0], a[1], a[2]), new int[] {1, 1, 100}, 0, 9, 0, 3, 0, 99999);
        due(BAD, new WayLeaves().claim(0, 0, 0));
        WayLeaves x = withSpans(8);
        for (int n = 0; n < 30; n++) due(n, x.claim(n % 10, 0, n));
        due(FULL, x.claim(0, 0, 0));
        due(30, x.count(5));
        due(((1 << 30) - 1) & ~1023, x.doubled());
        refused(FULL, Fill::claims, y -> y.claim(0, 0, 0));
        refused(BAD, Fill::claims, y -> y.claim(10, 0, 0));
        refused(BAD, Fill::claims, y -> y.claim(0, 4, 0));
        refused(BAD, Fill::claims, y -> y.claim(0, 0, 100000));
    }

    private static void doubled() {
        WayLeaves x = withSpans(8, 9);
        due(0, x.doubled());
        x.claim(1, 0, 5);
        due(0, x.doubled());
        // Of like SPAN alone, of like OWNER alone: not; of both: however much is claimed.
        x.claim(2, 0, 5);
        x.claim(1, 1, 5);
        due(0, x.doubled());
        x.claim(1, 0, 99999);
        due(8, x.doubled());
        x.claim(1, 0, 0);
        due(24, x.doubled());
        x.claim(2, 1, 0);
        due(24, x.doubled());
        due(10, x.due(1));
        x.claim(2, 1, 7);
        due(24 + 64, x.doubled());
        due(5, x.due(2));
    }

    private static void dueEdges() {
        limits(NO, (x, a) -> x.due(a[0]), new int[] {1}, 0, 9);
        for (int much : new int[] {0, 1, 999, 1000, 1001, 99999}) {
            WayLeaves x = withSpans(8);
            x.claim(3, 0, much);
            due(Math.min(much, 1000), x.due(3));
            for (int sum = 999; sum <= 1001; sum++) {
                x.force(text(x, "pays 0;sum " + sum + ";"));
                due(Math.min(much, sum), x.due(3));
            }
        }
        String[] sums = {"0", "-1", "1", "-9999*9999*21", "9999*9999*22"};
        long[] want = {0, 0, 1, 0, 0};
        for (int i = 0; i < sums.length; i++) {
            WayLeaves x = withSpans(8);
            x.claim(3, 0, 500);
            x.force(text(x, "pays 0;sum " + sums[i] + ";"));
            due(want[i], x.due(3));
        }
        // All 30 with the most.
        WayLeaves x = withSpans(8, 9, 10);
        for (int n = 0; n < 30; n++) x.claim(n % 10, n / 10, 99999);
        x.force(text(x, "pays 0;sum 9999*9999;"));
        for (int owner = 0; owner < 10; owner++) due(3 * 99999, x.due(owner));
        for (int owner = 1; owner < 10; owner++) x.heir(owner, 0, 1);
        due(30 * 99999, x.due(0));
    }

    private static void dueByWhatSpansHave() {
        // With LEAVE nothing, with an ORDER alone or NONE all; as it is in DAY.
        WayLeaves x = withSpans(8);
        x.claim(3, 0, 500);
        x.leave(4, 0, 0, 0, -1);
        due(500, x.due(3));
        x.leave(0, 0, 0, 1, -1);
        due(500, x.due(3));
        x.pass(1);
        due(0, x.due(3));
        x.pass(364);
        due(0, x.due(3));
        x.pass(1);
        due(500, x.due(3));
    }

    private static void look() {
        limits(BAD, (x, a) -> x.look(a[0], a[1], a[2]), new int[] {8, 500, 10}, 0, 47, 0, 99999, 0, 50);
        WayLeaves x = new WayLeaves();
        for (int n = 1; n <= 20; n++) due(n, x.look(n, n, 0));
        due(FULL, x.look(0, 0, 0));
        due(20, x.count(6));
        due(-1, x.bounds(0, 0));
        due(20, x.bounds(20, 1));
        refused(FULL, Fill::looks, y -> y.look(8, 500, 10));
        refused(BAD, Fill::looks, y -> y.look(48, 500, 10));
        refused(BAD, Fill::looks, y -> y.look(8, 100000, 10));
        refused(BAD, Fill::looks, y -> y.look(8, 500, 51));
    }

    private static void boundsAre(int lower, int upper, int... priceAndLikeness) {
        WayLeaves x = new WayLeaves();
        x.look(6, 1, 0);
        for (int i = 0; i < priceAndLikeness.length; i += 2) x.look(5, priceAndLikeness[i], priceAndLikeness[i + 1]);
        due(lower, x.bounds(5, 0));
        due(upper, x.bounds(5, 1));
        for (int what = 0; what < 2; what++) due(1, x.bounds(6, what));
    }

    private static void bounds() {
        limits(-5, (x, a) -> x.bounds(a[0], a[1]), new int[] {8, 0}, 0, 47, 0, 1);
        boundsAre(-1, -1);
        boundsAre(0, 0, 0, 0);
        boundsAre(0, 0, 0, 50);
        boundsAre(1, 1, 1, 50);
        boundsAre(1, 3, 2, 50);
        boundsAre(99, 99, 99, 1);
        boundsAre(99, 101, 100, 1);
        boundsAre(198, 200, 199, 1);
        boundsAre(99999, 99999, 99999, 0);
        boundsAre(50000, 149998, 99999, 50);
        // They meet in one point, and then they miss each other by 1; whichever is told first.
        boundsAre(110, 110, 100, 10, 110, 0);
        boundsAre(-2, -2, 100, 10, 111, 0);
        boundsAre(-2, -2, 111, 0, 100, 10);
        boundsAre(90, 90, 90, 0, 100, 10);
        boundsAre(-2, -2, 89, 0, 100, 10);
        boundsAre(95, 105, 100, 5, 100, 50);
        boundsAre(-2, -2, 0, 0, 1, 0);
        boundsAre(-2, -2, 1, 0, 99999, 0, 50000, 50);
    }

    public static void main(String[] args) {
        check("promise 20", TextBoundariesTest::feedBoundaries);
        check("promise 20, bytes", TextBoundariesTest::feedBytes);
        check("promise 21, FULL", TextBoundariesTest::textTillFull);
        check("promise 21, THE TAPE", TextBoundariesTest::tapeByFault);
        check("promise 21, 160 bytes", TextBoundariesTest::ends160);
        check("terms 4, too early", TextBoundariesTest::tooEarly);
        check("terms 4, WORDS", TextBoundariesTest::words);
        check("terms 4, NUMBERS", TextBoundariesTest::numbers);
        check("terms 4, SIGNS", TextBoundariesTest::signs);
        check("terms 4, once", TextBoundariesTest::onceAlone);
        check("terms 4, open", TextBoundariesTest::open);
        check("terms 4, open no longer", TextBoundariesTest::openEnds);
        check("promise 22", TextBoundariesTest::force);
        check("promise 23", TextBoundariesTest::says);
        check("terms 4, wrapping", TextBoundariesTest::wrapping);
        check("terms 4, 1 or 0", TextBoundariesTest::truth);
        check("promise 24", TextBoundariesTest::claim);
        check("promise 25", TextBoundariesTest::doubled);
        check("promise 26", TextBoundariesTest::dueEdges);
        check("promise 26, LEAVE", TextBoundariesTest::dueByWhatSpansHave);
        check("promise 27", TextBoundariesTest::look);
        check("promise 28", TextBoundariesTest::bounds);
        endOfTest();
    }
}
