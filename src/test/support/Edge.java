import java.io.IOException;
import java.nio.file.Files;
import java.nio.file.Path;
import java.util.ArrayList;
import java.util.HashMap;
import java.util.List;
import java.util.Map;
import java.util.TreeMap;
import java.util.regex.Matcher;
import java.util.regex.Pattern;

/** What the edge tests share: towns to begin with, calls that are due or refused, and the document's own sentences. */
final class Edge {
    static final int BAD = -1, STATE = -2, FULL = -3, NONE = -4;
    static final int LOW = Integer.MIN_VALUE, HIGH = Integer.MAX_VALUE;
    /** The document's Terms, where else the number of a promise stands. */
    static final int TERMS = 0;

    private static final Path DOC = Path.of("../shared/DOC.md");
    private static final int PARTS = 7;
    private static final Map<String, String> AS_MADE = new HashMap<>();
    private static final Map<Integer, List<String>> QUOTED = new TreeMap<>();
    private static String sentence = "";
    private static int wrong = 0;
    private static int asked = 0;

    private Edge() {
    }

    interface Call {
        long of(HauntSums x);
    }

    /** A call by one of its numbers. */
    interface By {
        long of(HauntSums x, int v);
    }

    /** A town that a test begins with, made anew each time. */
    enum Start {
        /** Nothing is there. */
        NEW,
        /** Of each some, but not all places: two ghosts, two clerks, three nights. */
        SOME,
        /** All places are taken: of ghosts, clerks, what was seen, images, sheets and their cells, the tape. */
        ALL,
        /** NIGHT is 999. */
        LATE;

        HauntSums make() {
            HauntSums x = new HauntSums();
            switch (this) {
                case SOME:
                    makeSome(x);
                    break;
                case ALL:
                    makeAll(x);
                    break;
                case LATE:
                    makeLate(x);
                    break;
                default:
                    break;
            }
            return x;
        }
    }

    private static void makeSome(HauntSums x) {
        tell(x, "times 25 41 4;plus 6 7 1;clerk 0 1;clerk 3 2;done 1 1;");
        x.keep(1);
        x.nights(3);
        x.see(1, 0, 4);
        x.see(0, 1, x.ahead(0, 1, 0));
        x.sheet(0, 1, 6);
        layAll(x, 0, 1, 4, 0, 2, 1, 5);
        x.sheet(2, 0, 3);
        layAll(x, 2, 0, 3);
        x.read(2, 2, 0, 1);
        tell(x, "clerk 6 1;");
        feedAll(x, "over 9 4 3;clerk 5 2;clerk 1 3;");
    }

    private static void makeAll(HauntSums x) {
        tell(x, "times 99 99 0;clerk 5 1;clerk 2 3;clerk 0 2;");
        x.leave(0, 6, 7, 3);
        x.leave(1, 70, 7, 5);
        x.leave(3, 50, 5, 1);
        x.keep(0);
        x.nights(7);
        for (int n = 15; n <= 20; n++) {
            x.see(n % 4, n, x.ahead(n % 4, n, 0));
        }
        x.keep(1);
        for (int k = 0; k < 4; k++) {
            x.sheet(k, k % 3, 40);
            x.lay(k, 0, 2);
            x.lay(k, 1, k);
            x.lay(k, 38, 1);
            x.lay(k, 39, k + 1);
        }
        x.read(3, 0, 39, 1);
        String text = "plus 1 1 0;plus 2 2 1;less 3 3 2;over 4 4 3;clerk 4 2;clerk 0 1;clerk 2 3;done 3 20;";
        feedAll(x, text + " ".repeat(160 - text.length() - 9) + "done 0 1;");
    }

    private static void makeLate(HauntSums x) {
        tell(x, "over 1 2 3;times 2 3 5;clerk 4 1;");
        x.keep(1);
        for (int i = 0; i < 33; i++) {
            x.nights(30);
        }
        x.nights(9);
        x.see(0, 20, 3);
        x.sheet(1, 2, 4);
        layAll(x, 1, 0, 3, 0, 5);
        x.keep(0);
    }

    static void feedAll(HauntSums x, String text) {
        for (int i = 0; i < text.length(); i++) {
            x.feed(text.charAt(i));
        }
    }

    static int tell(HauntSums x, String text) {
        feedAll(x, text);
        return x.text();
    }

    static HauntSums town(String text) {
        HauntSums x = new HauntSums();
        if (text.length() > 160 || tell(x, text) < 0) {
            throw new IllegalStateException(text);
        }
        return x;
    }

    static void layAll(HauntSums x, int k, int... cells) {
        for (int i = 0; i < cells.length; i++) {
            if (x.lay(k, i, cells[i]) != 1) {
                throw new IllegalStateException("lay");
            }
        }
    }

    // ---- sentences of the document

    /** What is asked from here on is asked because of these words of a promise. */
    static void sentence(int promise, String words) {
        sentence = (promise == TERMS ? "terms" : "promise " + promise) + ", '" + words + "'";
        QUOTED.computeIfAbsent(promise, p -> new ArrayList<>()).add(words);
    }

    // ---- calls

    static void due(String call, long got, long want) {
        asked++;
        if (got != want) {
            wrong++;
            System.out.println(sentence + ": " + call + " answered " + got + ", due is " + want);
        }
    }

    private static void same(String call, String is, String was) {
        asked++;
        if (!is.equals(was)) {
            wrong++;
            System.out.println(sentence + ": " + call + " changed\n  " + was + "\n  to\n  " + is);
        }
    }

    /** The answer is due, and no later call shows that the call was made. */
    static void refused(Start start, String call, long want, Call c) {
        for (int part = 0; part < PARTS; part++) {
            HauntSums x = start.make();
            due(call + " of " + start, c.of(x), want);
            same(call + " of " + start, shown(x, part), asMade(start, part));
        }
    }

    /** Asks only: whatever the answer, no later call shows it. */
    static void changesNothing(Start start, String call, Call c) {
        refused(start, call, c.of(start.make()), c);
    }

    /** The last number that is taken and the first that is refused, on both sides, and the ends of an int. */
    static void bounds(Start start, String call, int least, int most, By by) {
        for (int v : new int[] {least, most}) {
            long got = by.of(start.make(), v);
            asked++;
            if (got == BAD) {
                wrong++;
                System.out.println(sentence + ": " + call + " of " + start + " by " + v + " is BAD");
            }
        }
        for (int v : new int[] {least - 1, most + 1, LOW, HIGH}) {
            refused(start, call + " by " + v, BAD, x -> by.of(x, v));
        }
    }

    /** There is none of these yet, so each number is BAD. */
    static void nothingThere(Start start, String call, By by) {
        for (int v : new int[] {-1, 0, 1, LOW, HIGH}) {
            refused(start, call + " by " + v, BAD, x -> by.of(x, v));
        }
    }

    /** A text with a fault: the tape is empty then, all else stays. */
    static void textRefused(String text, int place, int fault) {
        for (int part = 0; part < PARTS; part++) {
            HauntSums x = Start.SOME.make();
            x.end(0);
            due("text of '" + text + "'", tell(x, text), -10 - place);
            due("fault of '" + text + "'", x.fault(), fault);
            due("bytes behind '" + text + "'", x.count(2), 0);
            HauntSums y = Start.SOME.make();
            y.end(0);
            same("text of '" + text + "'", partOfTown(x, part), partOfTown(y, part));
        }
    }

    private static String partOfTown(HauntSums x, int part) {
        switch (part) {
            case 0:
                return townShown(x);
            case 1:
            case 2:
                return x.back(part - 1) + " " + townShown(x);
            default:
                return sheetShown(x, part - 3);
        }
    }

    /** A text that is taken: what it tells is there, and nothing of what was there before but sheets. */
    static void textTaken(String text, int lines) {
        HauntSums y = new HauntSums();
        due("text of '" + text + "'", tell(y, text), lines);
        HauntSums x = Start.SOME.make();
        x.end(0);
        due("text of '" + text + "'", tell(x, text), lines);
        due("fault of '" + text + "'", x.fault(), 0);
        due("bytes behind '" + text + "'", x.count(2), 0);
        y.sheet(0, 0, 6);
        same("text of '" + text + "', but for all it tells,", townShown(x), townShown(y));
        due("back(0)", x.back(0), STATE);
        due("back(1)", x.back(1), STATE);
    }

    private static String asMade(Start start, int part) {
        return AS_MADE.computeIfAbsent(start + " " + part, k -> shown(start.make(), part));
    }

    // ---- what later calls show

    /** All that calls can show, in parts, as some of them change what others show. */
    static String shown(HauntSums x, int part) {
        switch (part) {
            case 0:
                return townShown(x) + faultsShown(x) + " tape " + x.text() + " " + x.fault() + " " + townShown(x);
            case 1:
            case 2:
                return "image " + x.back(part - 1) + " " + townShown(x) + faultsShown(x);
            default:
                return sheetShown(x, part - 3);
        }
    }

    static String townShown(HauntSums x) {
        StringBuilder s = new StringBuilder("town");
        for (int what = 0; what <= 5; what++) {
            s.append(' ').append(x.rule(what));
        }
        for (int g = 0; g < x.rule(0); g++) {
            for (int what = 0; what <= 9; what++) {
                s.append(' ').append(x.ghost(g, what));
            }
            s.append(" of ").append(x.kinds(g)).append(' ').append(x.second(g, 0)).append(' ').append(x.look(g, 0));
        }
        for (int c = 0; c < x.rule(1); c++) {
            s.append(" clerk ").append(x.clerk(c, 0)).append(' ').append(x.clerk(c, 1));
        }
        s.append(" ahead ").append(x.runs(60, 0)).append(' ').append(x.drift(5, 9, 0)).append(" counts");
        for (int what : new int[] {0, 1, 3, 4}) {
            s.append(' ').append(x.count(what));
        }
        return s.toString();
    }

    private static String faultsShown(HauntSums x) {
        return " faults " + x.fault() + " " + x.torn() + " bytes " + x.count(2);
    }

    private static String sheetShown(HauntSums x, int k) {
        StringBuilder s = new StringBuilder("sheet " + k + " torn " + x.torn());
        int right = 0;
        for (int lane = 0; lane < 3; lane++) {
            s.append(" as ").append(lane).append(": ").append(x.read(k, lane, 0, 1)).append(' ').append(x.torn());
            right = x.torn() == 3 ? right : lane;
        }
        for (int f = 0; f <= 40; f++) {
            s.append(" cell ").append(x.read(k, right, f, 1)).append(' ').append(x.torn());
            for (int c = 0; c < 3; c++) {
                s.append(' ').append(x.clerk(c, 0));
            }
        }
        return s.toString();
    }

    // ---- the end

    private static final Pattern EDGE = Pattern.compile("\\b(?:BAD|STATE|FULL|NONE)\\b|\\d+ to \\d+|\\ba \\.\\. z\\b"
        + "|at most|at least|at first|more than|too long|\\d+(?:st|nd|rd|th)\\b|modulo|\\(down\\)|likewise");

    /** Each word of these promises that names an edge stands in a sentence that was asked for. */
    private static void allQuoted(int[] promises) throws IOException {
        if (!Files.exists(DOC)) {
            System.out.println("no document at " + DOC + ": its words are not looked at");
            return;
        }
        String doc = Files.readString(DOC).replaceAll("\\s+", " ");
        for (int p : promises) {
            String head = p == TERMS ? "## Terms" : "## Promise " + p + ":";
            int from = doc.indexOf(head);
            int to = doc.indexOf(p == TERMS ? "Ahead of the calls" : "## ", from + 3);
            String section = doc.substring(from, to < 0 ? doc.length() : to);
            boolean[] quoted = new boolean[section.length()];
            for (String words : QUOTED.getOrDefault(p, List.of())) {
                int at = section.indexOf(words);
                due("the place of '" + words + "' in promise " + p, at < 0 ? 1 : 0, 0);
                for (; at >= 0; at = section.indexOf(words, at + 1)) {
                    java.util.Arrays.fill(quoted, at, at + words.length(), true);
                }
            }
            Matcher m = EDGE.matcher(section);
            while (m.find()) {
                if (!quoted[m.start()] || !quoted[m.end() - 1]) {
                    wrong++;
                    System.out.println("promise " + p + ": no test of '" + m.group() + "' at .." + section.substring(m.start()));
                }
            }
        }
    }

    static void finish(int... promises) throws IOException {
        sentence = "the document";
        allQuoted(promises);
        System.out.println(asked + " asked, " + (wrong == 0 ? "all as due" : wrong + " not as due"));
        if (wrong != 0) {
            System.exit(1);
        }
    }
}
