/** Each promise by numbers that were worked out by hand: ordinary inputs, edges, wrong inputs. */
public final class PromiseTest {
    private static final int BAD = -1, STATE = -2, FULL = -3, NONE = -4;
    private static final int LOW = Integer.MIN_VALUE, HIGH = Integer.MAX_VALUE;
    private static int wrong = 0;
    private static int promise = 0;

    private static void due(String call, long got, long want) {
        if (got != want) {
            wrong++;
            System.out.println("promise " + promise + ": " + call + " answered " + got + ", due is " + want);
        }
    }

    private static void feedAll(HauntSums x, String text) {
        for (int i = 0; i < text.length(); i++) {
            x.feed(text.charAt(i));
        }
    }

    private static int tell(HauntSums x, String text) {
        feedAll(x, text);
        return x.text();
    }

    private static HauntSums town(String text) {
        HauntSums x = new HauntSums();
        if (tell(x, text) < 0) {
            throw new IllegalStateException(text);
        }
        return x;
    }

    private static String times(String text, int n) {
        return text.repeat(n);
    }

    /** All that can be asked of the state without changing it. */
    private static String told(HauntSums x) {
        StringBuilder s = new StringBuilder();
        for (int what = 0; what <= 5; what++) {
            s.append(x.rule(what)).append(' ');
        }
        for (int g = 0; g < x.rule(0); g++) {
            for (int what = 0; what <= 9; what++) {
                s.append(x.ghost(g, what)).append(' ');
            }
        }
        for (int c = 0; c < x.rule(1); c++) {
            s.append(x.clerk(c, 0)).append(' ').append(x.clerk(c, 1)).append(' ');
        }
        for (int what = 0; what <= 4; what++) {
            s.append(x.count(what)).append(' ');
        }
        s.append(x.fault()).append(' ').append(x.torn());
        return s.toString();
    }

    private static void same(String after, String was, HauntSums x) {
        String is = told(x);
        if (!is.equals(was)) {
            wrong++;
            System.out.println("promise " + promise + ": " + after + " changed " + was + " to " + is);
        }
    }

    private static void newObject() {
        promise = 1;
        HauntSums x = new HauntSums();
        for (int what = 0; what <= 5; what++) {
            due("rule(" + what + ")", x.rule(what), 0);
        }
        due("count(0)", x.count(0), 0);
        due("count(1)", x.count(1), 0);
        due("count(2)", x.count(2), 0);
        due("count(3)", x.count(3), NONE);
        due("count(4)", x.count(4), 0);
        due("fault", x.fault(), 0);
        due("torn", x.torn(), 0);
        due("ghost", x.ghost(0, 0), BAD);
        due("clerk", x.clerk(0, 0), BAD);
        due("back(0)", x.back(0), STATE);
        due("back(1)", x.back(1), STATE);
        for (int k = 0; k < 4; k++) {
            due("lay(" + k + ")", x.lay(k, 0, 1), -11);
        }
        due("runs(60, 3)", x.runs(60, 3), 0);
        due("best(20, 0)", x.best(20, 0), 0);
        due("best(20, 10)", x.best(20, 10), BAD);
        due("learn", x.learn(20, 0), NONE);
        due("mean num", x.mean(5, 60, 0), 0);
        due("mean den", x.mean(5, 60, 1), 1);
    }

    private static void feed() {
        promise = 2;
        HauntSums x = new HauntSums();
        due("feed(-1)", x.feed(-1), BAD);
        due("feed(128)", x.feed(128), BAD);
        due("feed(low)", x.feed(LOW), BAD);
        due("feed(high)", x.feed(HIGH), BAD);
        due("count(2)", x.count(2), 0);
        due("feed(0)", x.feed(0), 1);
        due("feed(127)", x.feed(127), 2);
        for (int i = 3; i <= 160; i++) {
            due("feed", x.feed(32), i);
        }
        due("feed, the 161st", x.feed(32), FULL);
        due("feed, bad and full", x.feed(128), BAD);
        due("count(2)", x.count(2), 160);
        due("text", x.text(), -10);
    }

    private static void end() {
        promise = 3;
        HauntSums x = new HauntSums();
        due("end(0)", x.end(0), 0);
        due("end(1)", x.end(1), BAD);
        feedAll(x, "plus 1 1 0;xx");
        due("end(-1)", x.end(-1), BAD);
        due("end(14)", x.end(14), BAD);
        due("end(high)", x.end(HIGH), BAD);
        due("end(low)", x.end(LOW), BAD);
        due("count(2)", x.count(2), 13);
        due("end(13)", x.end(13), 13);
        due("end(11)", x.end(11), 13);
        due("count(2)", x.count(2), 11);
        due("feed", x.feed(' '), 12);
        due("text", x.text(), 1);
        feedAll(x, "xx");
        due("end(0)", x.end(0), 2);
        due("text", x.text(), 0);
    }

    private static void oneText(String text, int answer, int fault) {
        HauntSums x = new HauntSums();
        due("text of '" + text + "'", tell(x, text), answer);
        due("fault of '" + text + "'", x.fault(), fault);
        due("tape behind '" + text + "'", x.count(2), 0);
    }

    private static void textsTaken() {
        promise = 4;
        oneText("", 0, 0);
        oneText("    ", 0, 0);
        oneText("plus 1 1 0;", 1, 0);
        oneText("plus1 1 0;", 1, 0);
        oneText("  plus   01  99  05  ;  ", 1, 0);
        oneText("less 1 1 0;times 1 1 0;over 1 1 0;clerk 0 1;done 0 0;", 5, 0);
        oneText("done 3 20;plus 1 1 0;plus 1 1 0;plus 1 1 0;plus 1 1 0;", 5, 0);
        oneText("clerk 5 3;clerk 0 1;clerk 1 2;", 3, 0);
        HauntSums x = town("less 12 34 5;times 99 2 4;over 50 7 3;plus 8 9 2;clerk 3 2;clerk 4 1;done 2 20;done 0 1;");
        int[][] ghosts = {{1, 12, 34, 5, 1}, {2, 99, 2, 4, 0}, {3, 50, 7, 3, 20}, {0, 8, 9, 2, 0}};
        for (int g = 0; g < 4; g++) {
            for (int what = 0; what < 5; what++) {
                due("ghost(" + g + ", " + what + ")", x.ghost(g, what), ghosts[g][what]);
            }
        }
        due("clerk(0, 0)", x.clerk(0, 0), 3);
        due("clerk(0, 1)", x.clerk(0, 1), 2);
        due("clerk(1, 0)", x.clerk(1, 0), 4);
        due("clerk(1, 1)", x.clerk(1, 1), 1);
    }

    private static void textsRefused() {
        promise = 5;
        oneText("Plus 1 1 0;", -10, 1);
        oneText("plus 1\n1 0;", -16, 1);
        oneText("plus 100 1 0;", -15, 1);
        oneText("plus 1 000 0;", -17, 1);
        oneText("777", -10, 1);
        oneText("plus 1 1 0;-", -21, 1);
        oneText("{", -10, 1);
        oneText("`", -10, 1);
        oneText("/", -10, 1);
        oneText(":", -10, 1);
        oneText("<", -10, 1);
        oneText("plus 1 1 0", -20, 2);
        oneText("plus 1 1 0   ", -23, 2);
        oneText("plus", -14, 2);
        oneText("plus 1", -16, 2);
        oneText("pluss 1 1 0;", -10, 2);
        oneText("plu s", -10, 2);
        oneText("  x", -12, 2);
        oneText("a", -10, 2);
        oneText("z", -10, 2);
        oneText("zlus 1 1 0;", -10, 2);
        oneText("plut 1 1 0;", -10, 2);
        oneText("plus 1 1 0 777 x", -21, 1);
        oneText("plus 1 777 x", -17, 1);
        oneText(";", -10, 2);
        oneText("7", -10, 2);
        oneText("plus 1 1 0;;", -21, 2);
        oneText("plus ;", -15, 2);
        oneText("plus x", -15, 2);
        oneText("plus 1 1 0 0;", -21, 2);
        oneText("done 0 1 1;", -19, 2);
        oneText("clerk 0;", -17, 2);
        oneText("plus 0 1 0;", -15, 3);
        oneText("less 1 0 0;", -17, 3);
        oneText("times 1 1 6;", -20, 3);
        oneText("over 1 00 0;", -17, 3);
        oneText("done 4 1;", -15, 3);
        oneText("done 0 21;", -17, 3);
        oneText("clerk 6 1;", -16, 3);
        oneText("clerk 0 0;", -18, 3);
        oneText("clerk 0 4;", -18, 3);
        oneText("done 0 1;done 0 99;", -24, 4);
        oneText("done 1 1;done 0 1;done 1 x", -33, 4);
        oneText(times("plus 1 1 0;", 5), -54, 5);
        oneText(times("plus 1 1 0;", 4) + "over!", -54, 5);
        oneText(times("plus 1 1 0;", 4) + "overs", -54, 2);
        oneText(times("plus 1 1 0;", 4) + " clerk 0 1;", 5, 0);
        oneText(times("clerk 0 1;", 4), -40, 5);
        oneText(times("clerk 0 1;", 3) + "plus 1 1 0;", 4, 0);
        oneText("done 0 1;", -19, 6);
        oneText("done 3 1;plus 1 1 0;  ", -32, 6);
        oneText("done 3 1;plus 1 1 0;x", -30, 2);
        HauntSums x = town("plus 1 1 0;");
        tell(x, "x");
        due("fault", x.fault(), 2);
        tell(x, "");
        due("fault", x.fault(), 0);
    }

    private static void textAndState() {
        promise = 4;
        HauntSums x = town("plus 1 1 0;clerk 1 2;");
        x.nights(3);
        x.see(0, 0, 0);
        x.keep(1);
        x.keep(0);
        x.sheet(0, 2, 7);
        x.read(0, 1, 0, 1);
        String was = told(x);
        tell(x, "plus 1 1 0;clerk 0 9;");
        due("fault", x.fault(), 3);
        due("the last byte of the state told", was.charAt(was.length() - 1), '3');
        due("rule(2)", x.rule(2), 3);
        due("count(0)", x.count(0), 1);
        due("count(1)", x.count(1), 2);
        due("clerk(0, 1)", x.clerk(0, 1), 2);
        due("text", tell(x, "times 9 9 2;"), 1);
        due("rule(0)", x.rule(0), 1);
        due("rule(1)", x.rule(1), 0);
        due("rule(2)", x.rule(2), 0);
        due("count(0)", x.count(0), 0);
        due("count(1)", x.count(1), 0);
        due("back(0)", x.back(0), STATE);
        due("back(1)", x.back(1), STATE);
        due("count(3)", x.count(3), 7);
        due("torn", x.torn(), 3);
        due("ghost(0, 4)", x.ghost(0, 4), 0);
    }

    private static void rule() {
        promise = 6;
        HauntSums x = town("plus 70 7 0;over 5 9 2;less 1 8 2;done 0 2;clerk 1 1;clerk 2 2;");
        due("rule(0)", x.rule(0), 3);
        due("rule(1)", x.rule(1), 2);
        due("rule(2)", x.rule(2), 0);
        due("rule(3)", x.rule(3), 1);
        due("rule(4)", x.rule(4), 3);
        // 70, 7, 77; none; 7
        due("rule(5)", x.rule(5), 5);
        due("rule(-1)", x.rule(-1), BAD);
        due("rule(6)", x.rule(6), BAD);
        x.nights(1);
        due("rule(2)", x.rule(2), 1);
    }

    private static void oneSum(int kind, int a, int b, int answer, int steps, int pace, int creaks) {
        HauntSums x = new HauntSums();
        x.leave(kind, a, b, 0);
        String sum = kind + " of " + a + " and " + b + ": ";
        due(sum + "answer", x.ghost(0, 5), answer);
        due(sum + "steps", x.ghost(0, 6), steps);
        due(sum + "left", x.ghost(0, 7), steps);
        due(sum + "pace", x.ghost(0, 8), pace);
        due(sum + "creaks", x.ghost(0, 9), creaks);
    }

    private static void ghost() {
        promise = 7;
        oneSum(0, 1, 1, 2, 1, 2, 0);
        oneSum(0, 4, 5, 9, 1, 3, 0);
        oneSum(0, 4, 6, 10, 2, 4, 0);
        oneSum(0, 77, 22, 99, 2, 3, 2);
        oneSum(0, 99, 1, 100, 3, 4, 0);
        oneSum(0, 99, 99, 198, 3, 0, 0);
        oneSum(1, 5, 5, 0, 2, 0, 0);
        oneSum(1, 1, 8, 7, 2, 1, 1);
        oneSum(1, 8, 1, 7, 2, 1, 1);
        oneSum(1, 99, 22, 77, 3, 5, 2);
        oneSum(2, 3, 3, 9, 2, 3, 0);
        oneSum(2, 2, 5, 10, 4, 4, 0);
        oneSum(2, 10, 10, 100, 6, 4, 0);
        oneSum(2, 7, 11, 77, 4, 5, 3);
        oneSum(2, 99, 99, 9801, 8, 3, 0);
        oneSum(3, 1, 99, 0, 1, 0, 0);
        oneSum(3, 99, 10, 9, 1, 3, 0);
        oneSum(3, 99, 9, 11, 3, 5, 0);
        oneSum(3, 77, 1, 77, 3, 5, 4);
        HauntSums x = town("times 10 10 4;plus 1 1 3;done 0 4;done 1 20;");
        int[] first = {2, 10, 10, 4, 4, 100, 6, 2, 4, 0};
        int[] second = {0, 1, 1, 3, 20, 2, 1, 0, 2, 0};
        for (int what = 0; what <= 9; what++) {
            due("ghost(0, " + what + ")", x.ghost(0, what), first[what]);
            due("ghost(1, " + what + ")", x.ghost(1, what), second[what]);
        }
        due("ghost(0, -1)", x.ghost(0, -1), BAD);
        due("ghost(0, 10)", x.ghost(0, 10), BAD);
        due("ghost(-1, 0)", x.ghost(-1, 0), BAD);
        due("ghost(2, 0)", x.ghost(2, 0), BAD);
        due("ghost(low, 0)", x.ghost(LOW, 0), BAD);
    }

    private static void clerk() {
        promise = 8;
        HauntSums x = town("clerk 5 3;clerk 2 1;");
        due("clerk(0, 0)", x.clerk(0, 0), 5);
        due("clerk(0, 1)", x.clerk(0, 1), 3);
        due("clerk(1, 0)", x.clerk(1, 0), 2);
        due("clerk(1, 1)", x.clerk(1, 1), 1);
        due("clerk(2, 0)", x.clerk(2, 0), BAD);
        due("clerk(-1, 0)", x.clerk(-1, 0), BAD);
        due("clerk(0, 2)", x.clerk(0, 2), BAD);
        due("clerk(0, -1)", x.clerk(0, -1), BAD);
    }

    private static void alter() {
        promise = 9;
        HauntSums x = town("plus 1 2 3;plus 4 5 1;done 0 1;");
        int[] was = {0, 1, 2, 3, 1};
        int[][] bounds = {{0, 3}, {1, 99}, {1, 99}, {0, 5}, {0, 20}};
        for (int what = 0; what <= 4; what++) {
            String before = told(x);
            due("alter below", x.alter(0, what, bounds[what][0] - 1), BAD);
            due("alter above", x.alter(0, what, bounds[what][1] + 1), BAD);
            same("a refused alter", before, x);
            due("alter most", x.alter(0, what, bounds[what][1]), was[what]);
            due("ghost", x.ghost(0, what), bounds[what][1]);
            due("alter least", x.alter(0, what, bounds[what][0]), bounds[what][1]);
            due("ghost", x.ghost(0, what), bounds[what][0]);
        }
        due("alter(0, 5, 1)", x.alter(0, 5, 1), BAD);
        due("alter(0, -1, 1)", x.alter(0, -1, 1), BAD);
        due("alter(2, 0, 1)", x.alter(2, 0, 1), BAD);
        due("alter(-1, 0, 1)", x.alter(-1, 0, 1), BAD);
        due("ghost(1, 1)", x.ghost(1, 1), 4);
        due("ghost(1, 0)", x.ghost(1, 0), 0);
    }

    private static void post() {
        promise = 10;
        HauntSums x = town("clerk 1 2;clerk 3 1;");
        String before = told(x);
        due("post(0, 0, 6)", x.post(0, 0, 6), BAD);
        due("post(0, 0, -1)", x.post(0, 0, -1), BAD);
        due("post(0, 1, 0)", x.post(0, 1, 0), BAD);
        due("post(0, 1, 4)", x.post(0, 1, 4), BAD);
        due("post(0, 2, 1)", x.post(0, 2, 1), BAD);
        due("post(0, -1, 1)", x.post(0, -1, 1), BAD);
        due("post(2, 0, 1)", x.post(2, 0, 1), BAD);
        due("post(-1, 0, 1)", x.post(-1, 0, 1), BAD);
        same("a refused post", before, x);
        due("post(0, 0, 5)", x.post(0, 0, 5), 1);
        due("post(0, 0, 0)", x.post(0, 0, 0), 5);
        due("post(0, 1, 3)", x.post(0, 1, 3), 2);
        due("post(0, 1, 1)", x.post(0, 1, 1), 3);
        due("clerk(0, 0)", x.clerk(0, 0), 0);
        due("clerk(0, 1)", x.clerk(0, 1), 1);
        due("clerk(1, 0)", x.clerk(1, 0), 3);
        due("clerk(1, 1)", x.clerk(1, 1), 1);
    }

    private static void leave() {
        promise = 11;
        HauntSums x = new HauntSums();
        int[][] bad = {{-1, 1, 1, 0}, {4, 1, 1, 0}, {0, 0, 1, 0}, {0, 100, 1, 0}, {0, 1, 0, 0}, {0, 1, 100, 0},
            {0, 1, 1, -1}, {0, 1, 1, 6}};
        for (int[] b : bad) {
            due("leave", x.leave(b[0], b[1], b[2], b[3]), BAD);
        }
        due("rule(0)", x.rule(0), 0);
        due("leave 0", x.leave(0, 1, 99, 0), 0);
        due("leave 1", x.leave(3, 99, 1, 5), 1);
        due("leave 2", x.leave(1, 7, 8, 2), 2);
        due("leave 3", x.leave(2, 3, 4, 1), 3);
        due("leave 4", x.leave(2, 3, 4, 1), FULL);
        due("leave, bad and full", x.leave(4, 3, 4, 1), BAD);
        due("rule(0)", x.rule(0), 4);
        due("ghost(2, 0)", x.ghost(2, 0), 1);
        due("ghost(2, 1)", x.ghost(2, 1), 7);
        due("ghost(2, 2)", x.ghost(2, 2), 8);
        due("ghost(2, 3)", x.ghost(2, 3), 2);
        due("ghost(2, 4)", x.ghost(2, 4), 0);
        // DONE of an earlier ghost in the same place is not kept
        HauntSums y = town("plus 1 1 0;done 0 9;");
        tell(y, "");
        y.leave(0, 1, 1, 0);
        due("ghost(0, 4)", y.ghost(0, 4), 0);
    }

    private static void nights() {
        promise = 12;
        // 100: 6 STEPS, PACE 4, from room 0: 0 4 2 0; the clerk in 2 does 2 STEPS in the third night
        HauntSums x = town("times 10 10 0;clerk 2 2;");
        String before = told(x);
        due("nights(-1)", x.nights(-1), BAD);
        due("nights(31)", x.nights(31), BAD);
        due("nights(0)", x.nights(0), 0);
        same("nights(0)", before, x);
        due("nights(1)", x.nights(1), 6);
        due("ghost(0, 3)", x.ghost(0, 3), 4);
        due("nights(2)", x.nights(2), 10);
        due("ghost(0, 3)", x.ghost(0, 3), 0);
        due("ghost(0, 4)", x.ghost(0, 4), 2);
        due("rule(2)", x.rule(2), 3);
        due("nights(30)", x.nights(30), 4 + 4 + 2 + 2 + 2);
        due("ghost(0, 7)", x.ghost(0, 7), 0);
        due("ghost(0, 4)", x.ghost(0, 4), 6);
        // it rests where it was done
        due("ghost(0, 3)", x.ghost(0, 3), 2);
        // two clerks in one room do one ghost, then the next; DONE is STEPS at most
        HauntSums y = town("plus 1 1 3;plus 9 9 3;times 9 9 3;done 2 20;clerk 3 3;clerk 3 1;clerk 3 3;");
        due("nights(1)", y.nights(1), 0);
        due("ghost(0, 4)", y.ghost(0, 4), 1);
        due("ghost(1, 4)", y.ghost(1, 4), 2);
        due("ghost(2, 4)", y.ghost(2, 4), 20);
        for (int i = 0; i < 33; i++) {
            due("nights(30)", y.nights(30), 0);
        }
        due("rule(2)", y.rule(2), 991);
        due("nights(9)", y.nights(9), FULL);
        due("nights(31)", y.nights(31), BAD);
        due("rule(2)", y.rule(2), 991);
        due("nights(8)", y.nights(8), 0);
        due("rule(2)", y.rule(2), 999);
        due("nights(1)", y.nights(1), FULL);
        due("nights(0)", y.nights(0), 0);
        due("runs(60, 0)", y.runs(60, 0), 0);
    }

    private static void runs() {
        promise = 13;
        HauntSums x = town("times 10 10 0;clerk 2 2;plus 1 1 5;done 1 1;");
        String before = told(x);
        int[] harm = {0, 6, 12, 16, 20, 24, 26, 28, 30, 30, 30};
        int[] left = {6, 6, 6, 4, 4, 4, 2, 2, 2, 0, 0};
        for (int n = 0; n <= 10; n++) {
            due("runs(" + n + ", 0)", x.runs(n, 0), harm[n]);
            due("runs(" + n + ", 1)", x.runs(n, 1), n < 9 ? 2 : 3);
            due("runs(" + n + ", 2)", x.runs(n, 2), left[n]);
            due("runs(" + n + ", 3)", x.runs(n, 3), n < 9 ? NONE : 9);
        }
        due("runs(60, 0)", x.runs(60, 0), 30);
        due("runs(60, 3)", x.runs(60, 3), 9);
        due("runs(61, 0)", x.runs(61, 0), BAD);
        due("runs(-1, 0)", x.runs(-1, 0), BAD);
        due("runs(1, -1)", x.runs(1, -1), BAD);
        due("runs(1, 4)", x.runs(1, 4), BAD);
        same("runs", before, x);
        x.nights(9);
        due("runs(0, 3)", x.runs(0, 3), 0);
    }

    private static void ahead() {
        promise = 14;
        HauntSums x = town("times 10 10 0;clerk 2 2;plus 1 1 5;done 1 1;");
        String before = told(x);
        int[] room = {0, 4, 2, 0, 4, 2, 0, 4, 2, 2, 2};
        int[] left = {6, 6, 6, 4, 4, 4, 2, 2, 2, 0, 0};
        for (int n = 0; n <= 10; n++) {
            due("ahead(0, " + n + ", 0)", x.ahead(0, n, 0), room[n]);
            due("ahead(0, " + n + ", 1)", x.ahead(0, n, 1), left[n]);
            due("ahead(1, " + n + ", 0)", x.ahead(1, n, 0), 5);
            due("ahead(1, " + n + ", 1)", x.ahead(1, n, 1), 0);
        }
        due("ahead(0, 60, 0)", x.ahead(0, 60, 0), 2);
        due("ahead(0, 61, 0)", x.ahead(0, 61, 0), BAD);
        due("ahead(0, -1, 0)", x.ahead(0, -1, 0), BAD);
        due("ahead(0, 1, 2)", x.ahead(0, 1, 2), BAD);
        due("ahead(0, 1, -1)", x.ahead(0, 1, -1), BAD);
        due("ahead(2, 1, 0)", x.ahead(2, 1, 0), BAD);
        due("ahead(-1, 1, 0)", x.ahead(-1, 1, 0), BAD);
        same("ahead", before, x);
    }

    private static void rests() {
        promise = 15;
        HauntSums x = town("times 10 10 0;clerk 2 2;plus 1 1 5;done 1 1;over 1 2 4;");
        String before = told(x);
        due("rests(0)", x.rests(0), 9);
        due("rests(1)", x.rests(1), 0);
        due("rests(2)", x.rests(2), NONE);
        due("rests(3)", x.rests(3), BAD);
        due("rests(-1)", x.rests(-1), BAD);
        same("rests", before, x);
        // 8 STEPS and PACE 3: in room 0 every second night
        HauntSums y = town("times 99 99 0;clerk 0 1;");
        due("rests(0)", y.rests(0), 15);
        // two walk in step, 1 room a night, and are done 1 STEP every sixth night: 8 and 2 from behind 5 on; 8 and 3 at once
        HauntSums z = town("times 49 25 1;plus 6 7 1;clerk 0 1;");
        due("rests(1)", z.rests(1), 60);
        due("runs(60, 3)", z.runs(60, 3), 60);
        due("runs(59, 3)", z.runs(59, 3), NONE);
        HauntSums w = town("times 49 25 1;plus 99 4 1;clerk 1 1;");
        due("rests(1)", w.rests(1), NONE);
        due("runs(60, 3)", w.runs(60, 3), NONE);
    }

    private static void meets() {
        promise = 16;
        HauntSums x = town("times 10 10 0;plus 1 1 2;done 1 1;over 1 2 4;clerk 2 2;clerk 4 1;clerk 1 1;");
        String before = told(x);
        due("meets(0, 0)", x.meets(0, 0), 2);
        due("meets(0, 1)", x.meets(0, 1), 1);
        due("meets(0, 2)", x.meets(0, 2), NONE);
        // one that rests meets none
        due("meets(1, 0)", x.meets(1, 0), NONE);
        due("meets(2, 1)", x.meets(2, 1), 0);
        due("meets(2, 0)", x.meets(2, 0), NONE);
        due("meets(3, 0)", x.meets(3, 0), BAD);
        due("meets(0, 3)", x.meets(0, 3), BAD);
        due("meets(-1, 0)", x.meets(-1, 0), BAD);
        due("meets(0, -1)", x.meets(0, -1), BAD);
        same("meets", before, x);
    }

    private static void harm() {
        promise = 17;
        HauntSums x = town("times 10 10 0;clerk 2 2;");
        String before = told(x);
        due("harm(0, 0)", x.harm(0, 0), 0);
        due("harm(0, 1)", x.harm(0, 1), 6);
        due("harm(0, 4)", x.harm(0, 4), 10);
        due("harm(4, 60)", x.harm(4, 60), 6 + 4 + 2);
        due("harm(2, 60)", x.harm(2, 60), 4 + 2);
        due("harm(1, 60)", x.harm(1, 60), 0);
        due("harm(6, 1)", x.harm(6, 1), BAD);
        due("harm(-1, 1)", x.harm(-1, 1), BAD);
        due("harm(0, 61)", x.harm(0, 61), BAD);
        due("harm(0, -1)", x.harm(0, -1), BAD);
        same("harm", before, x);
    }

    private static void best() {
        promise = 18;
        // 0 stays in room 5 (PACE 0), 1 STEP; 100 goes 0 4 2
        HauntSums x = town("over 1 2 5;times 10 10 0;clerk 1 1;clerk 1 3;");
        String before = told(x);
        due("best(0, 0)", x.best(0, 0), 0);
        due("best(0, 10)", x.best(0, 10), 0);
        due("best(0, 11)", x.best(0, 11), 0);
        // both in room 0: 1 and 2; clerk 0 in 5, clerk 1 in 0: 0 and 3: both 3, and the first is it
        due("best(1, 0)", x.best(1, 0), 3);
        due("best(1, 10)", x.best(1, 10), 0);
        due("best(1, 11)", x.best(1, 11), 0);
        due("best(20, 0) is no more", x.best(20, 0) <= x.runs(20, 0) ? 1 : 0, 1);
        // clerk 0 in 5, clerk 1 in 0: 3 and 3; both in 0: 1 and 2, 1 and 2; clerk 0 in 0, clerk 1 in 4: 1 and 5, 1 and 2
        due("best(2, 0)", x.best(2, 0), 6);
        due("best(2, 10)", x.best(2, 10), 0);
        due("best(2, 11)", x.best(2, 11), 0);
        due("best(21, 0)", x.best(21, 0), BAD);
        due("best(-1, 0)", x.best(-1, 0), BAD);
        due("best(1, 1)", x.best(1, 1), BAD);
        due("best(1, 9)", x.best(1, 9), BAD);
        due("best(1, 12)", x.best(1, 12), BAD);
        due("best(1, -1)", x.best(1, -1), BAD);
        due("best(1, low)", x.best(1, LOW), BAD);
        same("best", before, x);
        // any order of the three rooms does it: the first by clerks is it
        HauntSums y = town("over 1 2 5;over 1 2 3;over 1 2 4;clerk 0 1;clerk 0 1;clerk 0 1;");
        due("best(1, 0)", y.best(1, 0), 0);
        due("best(1, 10)", y.best(1, 10), 3);
        due("best(1, 11)", y.best(1, 11), 4);
        due("best(1, 12)", y.best(1, 12), 5);
    }

    private static void learn() {
        promise = 19;
        HauntSums x = town("times 99 99 0;over 1 2 3;times 10 10 5;clerk 0 3;clerk 3 1;clerk 5 1;");
        String before = told(x);
        // as it is: 5 and 0 and 5; clerk 0 can learn nothing, 1 need not, 2 makes 4
        due("runs(1, 0)", x.runs(1, 0), 10);
        due("learn(1, 0)", x.learn(1, 0), 2);
        due("learn(1, 1)", x.learn(1, 1), 9);
        due("learn(0, 0)", x.learn(0, 0), NONE);
        due("learn(0, 1)", x.learn(0, 1), NONE);
        due("learn(21, 0)", x.learn(21, 0), BAD);
        due("learn(-1, 0)", x.learn(-1, 0), BAD);
        due("learn(1, 2)", x.learn(1, 2), BAD);
        due("learn(1, -1)", x.learn(1, -1), BAD);
        same("learn", before, x);
        // of several the first
        HauntSums y = town("times 99 99 0;clerk 0 3;clerk 0 1;clerk 0 2;");
        due("learn(1, 0)", y.learn(1, 0), 1);
        due("learn(1, 1)", y.learn(1, 1), 1);
    }

    private static void quiet() {
        promise = 20;
        HauntSums x = town("times 10 10 0;plus 9 9 1;times 99 99 3;over 1 2 5;");
        String before = told(x);
        due("quiet(0, 0)", x.quiet(0, 0), 0);
        due("quiet(1, 0)", x.quiet(1, 0), 2);
        due("quiet(1, 1)", x.quiet(1, 1), 0);
        // 3 nights: 0: 6 and 8; 1: 3 times 2; 2: 6; 3: 8 and 8; 4: 6; 5: 3
        due("quiet(3, 0)", x.quiet(3, 0), 5);
        due("quiet(3, 1)", x.quiet(3, 1), 3);
        due("quiet(60, 1)", x.quiet(60, 1), 60);
        due("quiet(61, 0)", x.quiet(61, 0), BAD);
        due("quiet(-1, 0)", x.quiet(-1, 0), BAD);
        due("quiet(1, 2)", x.quiet(1, 2), BAD);
        due("quiet(1, -1)", x.quiet(1, -1), BAD);
        same("quiet", before, x);
    }

    private static void better() {
        promise = 21;
        // plus 5 and B: 1 figure up to 4; of these 4 alone (9, PACE 3) brings it to the clerk, behind 1 night
        HauntSums x = town("plus 5 90 0;over 9 1 3;clerk 3 1;");
        String before = told(x);
        due("better(0, 3, 0)", x.better(0, 3, 0), 4);
        due("better(0, 3, 1)", x.better(0, 3, 1), 1);
        due("better(0, 1, 0)", x.better(0, 1, 0), 1);
        due("better(0, 1, 1)", x.better(0, 1, 1), 1);
        due("better(0, 0, 0)", x.better(0, 0, 0), 1);
        due("better(0, 0, 1)", x.better(0, 0, 1), 0);
        due("better(1, 1, 0)", x.better(1, 1, 0), 1);
        due("better(1, 1, 1)", x.better(1, 1, 1), 2);
        due("better(0, 21, 0)", x.better(0, 21, 0), BAD);
        due("better(0, -1, 0)", x.better(0, -1, 0), BAD);
        due("better(0, 1, 2)", x.better(0, 1, 2), BAD);
        due("better(0, 1, -1)", x.better(0, 1, -1), BAD);
        due("better(2, 1, 0)", x.better(2, 1, 0), BAD);
        due("better(-1, 1, 0)", x.better(-1, 1, 0), BAD);
        same("better", before, x);
        // 99 less 90 is 9: the first B with 1 figure
        HauntSums y = town("less 99 1 0;");
        due("better(0, 20, 0)", y.better(0, 20, 0), 90);
        due("better(0, 20, 1)", y.better(0, 20, 1), 40);
        HauntSums z = town("less 98 1 0;done 0 2;");
        due("better(0, 20, 0)", z.better(0, 20, 0), 89);
        due("better(0, 20, 1)", z.better(0, 20, 1), 0);
    }

    private static void from() {
        promise = 22;
        // PACE 4: 0 4 2; the clerk in 2 does 2 of 6 STEPS each third night; from 2 behind 1, 4, 7
        HauntSums x = town("times 10 10 0;plus 1 1 5;done 1 1;over 1 2 4;clerk 2 2;");
        String before = told(x);
        due("from(0, 0)", x.from(0, 0), 2);
        due("from(0, 1)", x.from(0, 1), 7);
        due("from(1, 0)", x.from(1, 0), 0);
        due("from(1, 1)", x.from(1, 1), 0);
        due("from(2, 0)", x.from(2, 0), 2);
        due("from(2, 1)", x.from(2, 1), 1);
        due("from(3, 0)", x.from(3, 0), BAD);
        due("from(-1, 0)", x.from(-1, 0), BAD);
        due("from(0, 2)", x.from(0, 2), BAD);
        due("from(0, -1)", x.from(0, -1), BAD);
        same("from", before, x);
        // 17 nights are for those that stay there, then 1 STEP of 8 every sixth night; with 18 it is too late
        HauntSums z = town("times 40 30 2;times 40 30 2;plus 1 5 2;times 49 25 0;clerk 2 1;");
        due("from(3, 0)", z.from(3, 0), 3);
        due("from(3, 1)", z.from(3, 1), 60);
        z.alter(2, 1, 7);
        due("from(3, 0)", z.from(3, 0), NONE);
        due("from(3, 1)", z.from(3, 1), NONE);
        HauntSums y = town("times 10 10 0;");
        due("from(0, 0)", y.from(0, 0), NONE);
        due("from(0, 1)", y.from(0, 1), NONE);
    }

    private static void luck() {
        promise = 23;
        HauntSums x = town("plus 1 1 0;plus 9 9 1;plus 1 1 3;done 2 1;clerk 0 1;clerk 1 1;clerk 1 1;");
        String before = told(x);
        // ghost 0 if clerk 0 is well; ghost 1 if 1 and 2 are
        due("luck(3, 0, 1, 0)", x.luck(3, 0, 1, 0), 7);
        due("luck(3, 0, 1, 1)", x.luck(3, 0, 1, 1), 10);
        due("luck(3, 1, 1, 0)", x.luck(3, 1, 1, 0), 49);
        due("luck(3, 1, 1, 1)", x.luck(3, 1, 1, 1), 100);
        due("luck(2, 1, 1, 0)", x.luck(2, 1, 1, 0), 16);
        due("luck(2, 1, 1, 1)", x.luck(2, 1, 1, 1), 25);
        due("luck(10, 0, 60, 0)", x.luck(10, 0, 60, 0), 0);
        due("luck(10, 0, 60, 1)", x.luck(10, 0, 60, 1), 1);
        due("luck(0, 0, 1, 0)", x.luck(0, 0, 1, 0), 1);
        due("luck(0, 0, 1, 1)", x.luck(0, 0, 1, 1), 1);
        due("luck(5, 0, 0, 0)", x.luck(5, 0, 0, 0), 0);
        due("luck(5, 0, 0, 1)", x.luck(5, 0, 0, 1), 1);
        due("luck(5, 2, 0, 0)", x.luck(5, 2, 0, 0), 1);
        due("luck(5, 2, 0, 1)", x.luck(5, 2, 0, 1), 1);
        due("luck(-1, 0, 1, 0)", x.luck(-1, 0, 1, 0), BAD);
        due("luck(11, 0, 1, 0)", x.luck(11, 0, 1, 0), BAD);
        due("luck(1, 3, 1, 0)", x.luck(1, 3, 1, 0), BAD);
        due("luck(1, -1, 1, 0)", x.luck(1, -1, 1, 0), BAD);
        due("luck(1, 0, 61, 0)", x.luck(1, 0, 61, 0), BAD);
        due("luck(1, 0, -1, 0)", x.luck(1, 0, -1, 0), BAD);
        due("luck(1, 0, 1, 2)", x.luck(1, 0, 1, 2), BAD);
        due("luck(1, 0, 1, -1)", x.luck(1, 0, 1, -1), BAD);
        same("luck", before, x);
        HauntSums y = town("plus 1 1 0;");
        due("luck with no clerks", y.luck(5, 0, 60, 0), 0);
        due("luck with no clerks", y.luck(5, 0, 60, 1), 1);
    }

    private static void mean() {
        promise = 24;
        HauntSums x = town("plus 1 1 0;plus 9 9 1;clerk 0 1;clerk 1 1;clerk 1 1;");
        String before = told(x);
        // 3 out of ten: 3/10 of 1, and 2 times 3/10 of 1
        due("mean(3, 1, 0)", x.mean(3, 1, 0), 9);
        due("mean(3, 1, 1)", x.mean(3, 1, 1), 10);
        due("mean(0, 60, 0)", x.mean(0, 60, 0), 0);
        due("mean(0, 60, 1)", x.mean(0, 60, 1), 1);
        due("mean(10, 60, 0)", x.mean(10, 60, 0), 180);
        due("mean(10, 60, 1)", x.mean(10, 60, 1), 1);
        due("mean(5, 0, 0)", x.mean(5, 0, 0), 0);
        due("mean(5, 0, 1)", x.mean(5, 0, 1), 1);
        // he is ill in all three nights or in none: half of 3
        HauntSums y = town("over 1 2 0;clerk 0 1;");
        due("mean(5, 3, 0)", y.mean(5, 3, 0), 3);
        due("mean(5, 3, 1)", y.mean(5, 3, 1), 2);
        due("mean(-1, 1, 0)", x.mean(-1, 1, 0), BAD);
        due("mean(11, 1, 0)", x.mean(11, 1, 0), BAD);
        due("mean(1, 61, 0)", x.mean(1, 61, 0), BAD);
        due("mean(1, -1, 0)", x.mean(1, -1, 0), BAD);
        due("mean(1, 1, 2)", x.mean(1, 1, 2), BAD);
        due("mean(1, 1, -1)", x.mean(1, 1, -1), BAD);
        same("mean", before, x);
    }

    private static void see() {
        promise = 25;
        HauntSums x = town("plus 1 1 0;plus 9 9 1;");
        due("see(2, 0, 0)", x.see(2, 0, 0), BAD);
        due("see(-1, 0, 0)", x.see(-1, 0, 0), BAD);
        due("see(0, 21, 0)", x.see(0, 21, 0), BAD);
        due("see(0, -1, 0)", x.see(0, -1, 0), BAD);
        due("see(0, 0, 6)", x.see(0, 0, 6), BAD);
        due("see(0, 0, -1)", x.see(0, 0, -1), BAD);
        due("count(0)", x.count(0), 0);
        due("see(0, 0, 0)", x.see(0, 0, 0), 1);
        due("see(0, 0, 0)", x.see(0, 0, 0), 2);
        due("see(1, 20, 5)", x.see(1, 20, 5), 3);
        due("see", x.see(0, 1, 2), 4);
        due("see", x.see(0, 2, 4), 5);
        due("see", x.see(0, 3, 0), 6);
        due("see", x.see(0, 4, 2), FULL);
        due("see, bad and full", x.see(0, 21, 2), BAD);
        due("count(0)", x.count(0), 6);
    }

    private static void forget() {
        promise = 26;
        HauntSums x = town("plus 1 1 0;");
        due("forget(0)", x.forget(0), 0);
        due("forget(1)", x.forget(1), BAD);
        x.see(0, 0, 0);
        x.see(0, 1, 2);
        x.see(0, 2, 5);
        due("kinds", x.kinds(0), 0);
        due("forget(4)", x.forget(4), BAD);
        due("forget(-1)", x.forget(-1), BAD);
        due("forget(3)", x.forget(3), 3);
        due("count(0)", x.count(0), 3);
        due("forget(2)", x.forget(2), 3);
        due("kinds", x.kinds(0), 1);
        due("forget(1)", x.forget(1), 2);
        due("count(0)", x.count(0), 1);
        due("kinds", x.kinds(0), 15);
    }

    private static void kinds() {
        promise = 27;
        // of 6 and 2: 8 goes 2 on, 4 goes 4 on, 12 stays, 3 goes 3 on
        HauntSums x = town("less 6 2 1;plus 1 1 0;");
        due("kinds(0), nothing seen", x.kinds(0), 15);
        x.see(0, 0, 1);
        due("kinds(0)", x.kinds(0), 15);
        x.see(0, 3, 1);
        String before = told(x);
        due("kinds(0)", x.kinds(0), 1 + 2 + 4);
        x.see(0, 6, 1);
        due("kinds(0)", x.kinds(0), 1 + 2 + 4);
        x.forget(2);
        same("kinds", before, x);
        x.see(0, 1, 3);
        due("kinds(0)", x.kinds(0), 1);
        x.forget(2);
        x.see(1, 1, 2);
        due("kinds(0)", x.kinds(0), 1 + 2 + 4);
        // 1 and 1: 2, 0, 1, 1
        due("kinds(1): ghost 0 is as seen", x.kinds(1), 1);
        x.see(1, 1, 3);
        due("kinds(0): ghost 1 is never as seen", x.kinds(0), 0);
        due("kinds(2)", x.kinds(2), BAD);
        due("kinds(-1)", x.kinds(-1), BAD);
    }

    private static void second() {
        promise = 28;
        HauntSums x = town("plus 6 50 1;");
        due("second(0, 0)", x.second(0, 0), 99);
        due("second(0, 1)", x.second(0, 1), 1);
        due("second(0, 2)", x.second(0, 2), 99);
        x.see(0, 1, 3);
        String before = told(x);
        // B is 2 modulo 6: 2, 8 .. 98
        due("second(0, 0)", x.second(0, 0), 17);
        due("second(0, 1)", x.second(0, 1), 2);
        due("second(0, 2)", x.second(0, 2), 98);
        due("second(0, 3)", x.second(0, 3), BAD);
        due("second(0, -1)", x.second(0, -1), BAD);
        due("second(1, 0)", x.second(1, 0), BAD);
        due("second(-1, 0)", x.second(-1, 0), BAD);
        same("second", before, x);
        x.see(0, 2, 4);
        due("second(0, 0)", x.second(0, 0), 0);
        due("second(0, 1)", x.second(0, 1), NONE);
        due("second(0, 2)", x.second(0, 2), NONE);
    }

    private static void look() {
        promise = 29;
        // plus 6 and B with no clerks: behind 1 night B modulo 6 is known: 1, 2, 3 come 17 times each
        HauntSums x = town("plus 6 50 1;");
        String before = told(x);
        due("look(0, 0)", x.look(0, 0), 1);
        due("look(0, 1)", x.look(0, 1), 17);
        due("look(0, 2)", x.look(0, 2), BAD);
        due("look(0, -1)", x.look(0, -1), BAD);
        due("look(1, 0)", x.look(1, 0), BAD);
        due("look(-1, 0)", x.look(-1, 0), BAD);
        same("look", before, x);
        x.see(0, 1, 3);
        due("look(0, 0), all walk alike", x.look(0, 0), NONE);
        due("look(0, 1), all walk alike", x.look(0, 1), NONE);
        x.see(0, 2, 0);
        due("look(0, 0), none may be", x.look(0, 0), NONE);
        due("look(0, 1), none may be", x.look(0, 1), NONE);
        // those of 1 STEP (B 2) rest in room 3, where a clerk of skill 1 sits, the rest rest there later: behind 2 known
        HauntSums y = town("plus 6 50 1;clerk 3 1;");
        y.see(0, 1, 3);
        due("look(0, 0)", y.look(0, 0), 2);
        due("look(0, 1)", y.look(0, 1), 16);
        // 1 room a night (B 1, 7 .. 97), 1 STEP every sixth: 13 and 91 (4 STEPS) rest in the 20th night, or the 21st
        HauntSums z = town("times 13 1 5;clerk 0 1;");
        z.see(0, 1, 0);
        due("second(0, 0)", z.second(0, 0), 17);
        due("look(0, 0)", z.look(0, 0), 20);
        due("look(0, 1)", z.look(0, 1), 15);
        HauntSums w = town("times 13 1 4;clerk 0 1;");
        w.see(0, 1, 5);
        due("look(0, 0)", w.look(0, 0), NONE);
    }

    private static void drift() {
        promise = 30;
        HauntSums x = town("times 10 10 0;over 1 2 3;clerk 2 2;clerk 4 1;");
        String before = told(x);
        // seed 1: 1103527590, got 16838, clerk 0 in 16838 / 8 = 2104, 4: he meets none; 6 and 1
        due("drift(1, 1, 0)", x.drift(1, 1, 0), 7);
        due("drift(1, 1, 1)", x.drift(1, 1, 1), 0);
        due("drift(1, 0, 0)", x.drift(1, 0, 0), BAD);
        due("drift(1, 61, 0)", x.drift(1, 61, 0), BAD);
        due("drift(1, 1, 2)", x.drift(1, 1, 2), BAD);
        due("drift(1, 1, -1)", x.drift(1, 1, -1), BAD);
        // then 2524885223 (below 0 as an int), got 5758 (bit 31 is no part of it), clerk 0 in 719, 5: clerk 1 in 4 does 1
        due("drift(1, 2, 0)", x.drift(1, 2, 0), 7 + 5 + 1);
        same("drift", before, x);
        // of three: 16838 is clerk 2, in 4, who does both STEPS; 5758 is clerk 1, in 5, who does 1: 2 and 1
        HauntSums z = town("times 2 3 4;times 2 3 5;clerk 0 1;clerk 0 1;clerk 0 2;");
        due("drift(1, 1, 0)", z.drift(1, 1, 0), 2);
        due("drift(1, 2, 0)", z.drift(1, 2, 0), 3);
        due("drift(1, 1, 1)", z.drift(1, 1, 1), 1);
        due("drift(1, 2, 1)", z.drift(1, 2, 1), 1);
        due("drift of one", town("plus 1 1 0;clerk 4 1;").drift(HIGH, 1, 0), 1);
        HauntSums y = town("plus 1 1 0;");
        due("drift, no clerks", y.drift(1, 1, 0), STATE);
        due("drift, bad, no clerks", y.drift(1, 0, 0), BAD);
    }

    private static void keepAndBack() {
        promise = 31;
        HauntSums x = town("times 10 10 0;clerk 2 2;");
        due("keep(2)", x.keep(2), BAD);
        due("keep(-1)", x.keep(-1), BAD);
        x.nights(4);
        x.see(0, 1, 1);
        due("keep(0)", x.keep(0), 0);
        due("count(1)", x.count(1), 1);
        String first = told(x);
        due("keep(0)", x.keep(0), 1);
        x.leave(0, 1, 1, 1);
        x.post(0, 0, 5);
        x.post(0, 1, 3);
        x.alter(0, 0, 1);
        x.alter(0, 1, 9);
        x.alter(0, 2, 8);
        x.nights(3);
        x.forget(0);
        x.see(1, 2, 3);
        x.see(1, 3, 3);
        due("keep(1)", x.keep(1), 0);
        promise = 32;
        due("back(2)", x.back(2), BAD);
        due("back(-1)", x.back(-1), BAD);
        due("back(0)", x.back(0), 4);
        due("count(1)", x.count(1), 2);
        same("back(0)", first.replace(" 1 0 -4 2 0 0", " 2 0 -4 2 0 0"), x);
        due("kinds(0)", x.kinds(0), 0);
        due("back(1)", x.back(1), 7);
        due("rule(0)", x.rule(0), 2);
        due("clerk(0, 1)", x.clerk(0, 1), 3);
        due("count(0)", x.count(0), 2);
        // an image is not changed by what is done to the town that came of it
        x.back(0);
        x.nights(5);
        x.post(0, 0, 1);
        due("back(0)", x.back(0), 4);
        due("clerk(0, 0)", x.clerk(0, 0), 2);
        // what was seen comes back whole: the ghost, the night, the room
        HauntSums z = town("plus 1 1 0;plus 6 6 3;");
        z.see(1, 5, 3);
        z.see(0, 1, 2);
        z.keep(0);
        due("kinds(0)", z.kinds(0), 1);
        z.forget(0);
        z.see(0, 2, 1);
        z.see(1, 3, 0);
        due("kinds(0)", z.kinds(0), 0);
        z.back(0);
        due("kinds(0)", z.kinds(0), 1);
        HauntSums y = new HauntSums();
        y.keep(1);
        due("back(0)", y.back(0), STATE);
        due("back(1)", y.back(1), 0);
        feedAll(y, "ab");
        due("back(1)", y.back(1), 0);
        due("count(2)", y.count(2), 2);
    }

    private static void sheet() {
        promise = 33;
        HauntSums x = new HauntSums();
        due("sheet(4, 0, 1)", x.sheet(4, 0, 1), BAD);
        due("sheet(-1, 0, 1)", x.sheet(-1, 0, 1), BAD);
        due("sheet(0, 3, 1)", x.sheet(0, 3, 1), BAD);
        due("sheet(0, -1, 1)", x.sheet(0, -1, 1), BAD);
        due("sheet(0, 0, 41)", x.sheet(0, 0, 41), BAD);
        due("sheet(0, 0, high)", x.sheet(0, 0, HIGH), BAD);
        due("sheet(4, 0, -1)", x.sheet(4, 0, -1), BAD);
        due("sheet(0, 3, -1)", x.sheet(0, 3, -1), BAD);
        due("sheet(0, 0, -1)", x.sheet(0, 0, -1), -14);
        due("sheet(0, 0, low)", x.sheet(0, 0, LOW), -14);
        due("count(3)", x.count(3), NONE);
        due("sheet(0, 0, 0)", x.sheet(0, 0, 0), 1);
        due("count(3)", x.count(3), 0);
        due("lay(0, 0, 1)", x.lay(0, 0, 1), -12);
        for (int lane = 0; lane < 3; lane++) {
            due("sheet", x.sheet(0, lane, 40), 1);
            due("count(3)", x.count(3), 40);
            due("lay", x.lay(0, 39, 1), 1);
            due("lay", x.lay(0, 40, 1), -12);
        }
        due("sheet(0, 0, -1)", x.sheet(0, 0, -1), -14);
        due("count(3)", x.count(3), 40);
        due("torn", x.torn(), 0);
        // a new row is of 0, whatever lay there
        HauntSums y = town("clerk 3 1;");
        y.sheet(2, 1, 4);
        y.lay(2, 1, 5);
        y.lay(2, 2, 9);
        y.sheet(2, 1, 6);
        due("read", y.read(2, 1, 0, 2), 2);
        due("clerk(0, 0)", y.clerk(0, 0), 0);
        y.lay(2, 0, 9);
        y.sheet(2, 1, 2);
        due("read", y.read(2, 1, 0, 1), 1);
    }

    private static void lay() {
        promise = 34;
        HauntSums x = town("clerk 3 1;clerk 4 1;clerk 5 1;");
        due("lay(4, 0, 1)", x.lay(4, 0, 1), BAD);
        due("lay(-1, 0, 1)", x.lay(-1, 0, 1), BAD);
        due("lay(0, 0, 1)", x.lay(0, 0, 1), -11);
        due("lay(0, -1, 1)", x.lay(0, -1, 1), -11);
        x.sheet(3, 0, 2);
        due("lay(3, -1, 1)", x.lay(3, -1, 1), -12);
        due("lay(3, 2, 1)", x.lay(3, 2, 1), -12);
        due("lay(3, high, 1)", x.lay(3, HIGH, 1), -12);
        due("lay(3, low, 1)", x.lay(3, LOW, 1), -12);
        // lowest bits: 256 and 1 is 1, of a byte; 65536 and 2 is 2, of a short
        due("lay(3, 0, 257)", x.lay(3, 0, 257), 1);
        due("lay(3, 1, -254)", x.lay(3, 1, -254), 1);
        due("read", x.read(3, 0, 0, 1), 1);
        due("clerk(1, 0)", x.clerk(1, 0), 2);
        x.sheet(2, 1, 2);
        x.lay(2, 0, 256);
        due("read, 256 as a short", x.read(2, 1, 0, 1), -20);
        x.lay(2, 0, 65538);
        x.lay(2, 1, -65535);
        due("read", x.read(2, 1, 0, 1), 1);
        due("clerk(2, 0)", x.clerk(2, 0), 1);
        x.sheet(1, 2, 2);
        x.lay(1, 0, 65536);
        due("read, 65536 as an int", x.read(1, 2, 0, 1), -20);
        x.lay(1, 0, LOW);
        due("read, low", x.read(1, 2, 0, 1), -20);
        x.sheet(3, 0, 2);
        x.lay(3, 0, 128);
        due("read, 128 as a byte", x.read(3, 0, 0, 1), -20);
    }

    private static void read() {
        promise = 35;
        HauntSums x = town("times 10 10 0;clerk 2 2;clerk 1 1;");
        due("read(4, 0, 0, 1)", x.read(4, 0, 0, 1), BAD);
        due("read(-1, 0, 0, 1)", x.read(-1, 0, 0, 1), BAD);
        due("read(0, 3, 0, 1)", x.read(0, 3, 0, 1), BAD);
        due("read(0, -1, 0, 1)", x.read(0, -1, 0, 1), BAD);
        due("read(0, 0, 0, 21)", x.read(0, 0, 0, 21), BAD);
        due("read(0, 0, 0, -1)", x.read(0, 0, 0, -1), BAD);
        due("torn", x.torn(), 0);
        due("read(0, 0, 0, 0)", x.read(0, 0, 0, 0), 0);
        due("torn", x.torn(), 0);
        due("read(0, 0, 0, 1)", x.read(0, 0, 0, 1), 0);
        due("torn", x.torn(), 1);
        // clerk 0 in 0, night; clerk 1 in 4, night; and a half
        x.sheet(0, 1, 6);
        x.lay(0, 1, 0);
        x.lay(0, 2, 0);
        x.lay(0, 3, 1);
        x.lay(0, 4, 4);
        String before = told(x);
        due("read bad at once", x.read(0, 1, 1, 1), 1);
        due("clerk(0, 0)", x.clerk(0, 0), 0);
        due("ghost(0, 3)", x.ghost(0, 3), 4);
        due("ghost(0, 4)", x.ghost(0, 4), 2);
        due("rule(2)", x.rule(2), 1);
        due("torn", x.torn(), 0);
        due("before had NIGHT 0", before.startsWith("1 2 0 ") ? 1 : 0, 1);
        x = town("times 10 10 0;clerk 2 2;clerk 1 1;");
        x.sheet(0, 1, 6);
        x.lay(0, 3, 1);
        x.lay(0, 4, 4);
        x.lay(0, 5, 9);
        due("read(0, 1, 1, 3)", x.read(0, 1, 1, 3), 2);
        due("torn: the third is not whole", x.torn(), 2);
        due("rule(2)", x.rule(2), 2);
        due("clerk(0, 0)", x.clerk(0, 0), 0);
        due("clerk(1, 0)", x.clerk(1, 0), 4);
        // 2 done in 0, then 1 in 4, then to 2
        due("ghost(0, 4)", x.ghost(0, 4), 3);
        due("ghost(0, 3)", x.ghost(0, 3), 2);
        before = told(x);
        due("read: CLERK 4", x.read(0, 1, 4, 1), -20);
        due("read: ROOM 9", x.read(0, 1, 2, 2), -21);
        due("read of n too many", x.read(0, 1, 2, 21), BAD);
        same("read that is refused", before, x);
        due("torn stays", x.torn(), 2);
        due("read, another lane", x.read(0, 2, 0, 1), 0);
        due("torn", x.torn(), 3);
        due("read, another lane, behind the end", x.read(0, 0, 99, 1), 0);
        due("torn", x.torn(), 3);
        due("read, nothing, behind the end", x.read(1, 0, 99, 1), 0);
        due("torn", x.torn(), 1);
        due("read(0, 1, -1, 1)", x.read(0, 1, -1, 1), 0);
        due("torn", x.torn(), 2);
        due("read(0, 1, high, 20)", x.read(0, 1, HIGH, 20), 0);
        due("read(0, 1, low, 20)", x.read(0, 1, LOW, 20), 0);
        due("torn", x.torn(), 2);
        due("read(0, 1, 6, 1)", x.read(0, 1, 6, 1), 0);
        due("torn", x.torn(), 2);
        due("read(0, 1, 0, 0)", x.read(0, 1, 0, 0), 0);
        due("torn", x.torn(), 0);
        due("rule(2)", x.rule(2), 2);
    }

    private static void readLate() {
        promise = 35;
        HauntSums x = town("clerk 1 1;");
        for (int i = 0; i < 33; i++) {
            x.nights(30);
        }
        x.nights(7);
        x.sheet(1, 2, 8);
        x.lay(1, 1, 3);
        due("rule(2)", x.rule(2), 997);
        due("read of 3", x.read(1, 2, 0, 3), -22);
        due("rule(2)", x.rule(2), 997);
        due("clerk(0, 0)", x.clerk(0, 0), 1);
        due("read of 2", x.read(1, 2, 0, 2), 2);
        due("rule(2)", x.rule(2), 999);
        due("read of 1", x.read(1, 2, 0, 1), -20);
        due("read of 0", x.read(1, 2, 0, 0), 0);
        due("read of no whole one", x.read(1, 2, 7, 1), 0);
        promise = 36;
        due("torn", x.torn(), 2);
        due("read of 1", x.read(1, 2, 0, 1), -20);
        due("torn stays", x.torn(), 2);
        due("read of none", town("").read(0, 0, 0, 0), 0);
    }

    private static void count() {
        promise = 37;
        HauntSums x = town("plus 1 1 0;clerk 1 3;clerk 2 2;clerk 0 1;");
        due("count(4)", x.count(4), 6);
        x.see(0, 1, 1);
        x.see(0, 2, 1);
        due("count(0)", x.count(0), 2);
        x.keep(1);
        due("count(1)", x.count(1), 1);
        x.keep(1);
        due("count(1)", x.count(1), 1);
        x.keep(0);
        due("count(1)", x.count(1), 2);
        feedAll(x, "abc");
        due("count(2)", x.count(2), 3);
        x.sheet(1, 0, 9);
        due("count(3)", x.count(3), NONE);
        x.sheet(0, 0, 5);
        due("count(3)", x.count(3), 5);
        due("count(-1)", x.count(-1), BAD);
        due("count(5)", x.count(5), BAD);
    }

    public static void main(String[] args) {
        newObject();
        feed();
        end();
        textsTaken();
        textsRefused();
        textAndState();
        rule();
        ghost();
        clerk();
        alter();
        post();
        leave();
        nights();
        runs();
        ahead();
        rests();
        meets();
        harm();
        best();
        learn();
        quiet();
        better();
        from();
        luck();
        mean();
        see();
        forget();
        kinds();
        second();
        look();
        drift();
        keepAndBack();
        sheet();
        lay();
        read();
        readLate();
        count();
        System.out.println(wrong == 0 ? "all answers are as due" : wrong + " answers are not as due");
        if (wrong != 0) {
            System.exit(1);
        }
    }
}
