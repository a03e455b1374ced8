import java.io.IOException;

/** Promises 1 to 11, what is told and changed: each sentence that names an edge, by a test of its own. */
public final class EdgeToldTest {
    private static void newObject() {
        Edge.sentence(1, "No GHOSTS, no CLERKS; SHEETS of nothing.");
        HauntSums x = new HauntSums();
        for (int what = 0; what <= 5; what++) {
            Edge.due("rule(" + what + ")", x.rule(what), 0);
        }
        for (int what = 0; what <= 4; what++) {
            Edge.due("count(" + what + ")", x.count(what), what == 3 ? Edge.NONE : 0);
        }
        Edge.due("fault()", x.fault(), 0);
        Edge.due("torn()", x.torn(), 0);
        Edge.due("text()", x.text(), 0);
        for (int k = 0; k < 4; k++) {
            for (int lane = 0; lane < 3; lane++) {
                HauntSums y = new HauntSums();
                Edge.due("read of SHEET " + k, y.read(k, lane, 0, 1), 0);
                Edge.due("torn", y.torn(), 1);
            }
        }
        // one object is no part of another
        HauntSums y = Edge.Start.ALL.make();
        Edge.due("GHOSTS of another", x.rule(0), 0);
        Edge.due("bytes of another", x.count(2), 0);
        Edge.due("SEEN of the other", y.count(0), 6);
    }

    private static void nothingThere() {
        Edge.sentence(1, "No GHOSTS");
        Edge.nothingThere(Edge.Start.NEW, "ghost", (x, v) -> x.ghost(v, 0));
        Edge.nothingThere(Edge.Start.NEW, "alter", (x, v) -> x.alter(v, 1, 1));
        Edge.nothingThere(Edge.Start.NEW, "ahead", (x, v) -> x.ahead(v, 0, 0));
        Edge.nothingThere(Edge.Start.NEW, "rests", (x, v) -> x.rests(v));
        Edge.nothingThere(Edge.Start.NEW, "meets", (x, v) -> x.meets(v, 0));
        Edge.nothingThere(Edge.Start.NEW, "better", (x, v) -> x.better(v, 0, 0));
        Edge.nothingThere(Edge.Start.NEW, "from", (x, v) -> x.from(v, 0));
        Edge.nothingThere(Edge.Start.NEW, "luck", (x, v) -> x.luck(0, v, 0, 0));
        Edge.nothingThere(Edge.Start.NEW, "see", (x, v) -> x.see(v, 0, 0));
        Edge.nothingThere(Edge.Start.NEW, "kinds", (x, v) -> x.kinds(v));
        Edge.nothingThere(Edge.Start.NEW, "second", (x, v) -> x.second(v, 0));
        Edge.nothingThere(Edge.Start.NEW, "look", (x, v) -> x.look(v, 0));
        Edge.sentence(1, "no CLERKS");
        Edge.nothingThere(Edge.Start.NEW, "clerk", (x, v) -> x.clerk(v, 0));
        Edge.nothingThere(Edge.Start.NEW, "post", (x, v) -> x.post(v, 0, 0));
        Edge.nothingThere(Edge.Start.NEW, "best", (x, v) -> x.best(0, v == 0 ? 10 : v));
        HauntSums y = new HauntSums();
        y.leave(0, 1, 1, 0);
        Edge.due("meets with no CLERKS", y.meets(0, 0), Edge.BAD);
    }

    private static void feed() {
        Edge.sentence(2, "A byte (0 to 127) comes behind THE TAPE: how many it has. BAD");
        Edge.bounds(Edge.Start.NEW, "feed", 0, 127, (x, v) -> x.feed(v));
        Edge.bounds(Edge.Start.SOME, "feed", 0, 127, (x, v) -> x.feed(v));
        HauntSums x = new HauntSums();
        for (int c = 0; c <= 127; c++) {
            Edge.due("feed(" + c + ")", x.feed(c), c + 1);
            Edge.due("count(2)", x.count(2), c + 1);
        }
        Edge.sentence(2, "FULL: more than 160.");
        HauntSums y = new HauntSums();
        for (int i = 1; i <= 160; i++) {
            Edge.due("feed, byte " + i, y.feed(' '), i);
        }
        Edge.due("feed, byte 161", y.feed('x'), Edge.FULL);
        Edge.due("count(2)", y.count(2), 160);
        Edge.due("text", y.text(), 0);
        Edge.due("feed behind a text", y.feed('x'), 1);
        for (int c : new int[] {0, 32, 59, 127}) {
            Edge.refused(Edge.Start.ALL, "feed(" + c + ")", Edge.FULL, z -> z.feed(c));
        }
        HauntSums z = Edge.Start.ALL.make();
        Edge.due("end(159)", z.end(159), 160);
        Edge.due("feed", z.feed(';'), 160);
        Edge.due("feed", z.feed(';'), Edge.FULL);
    }

    private static void end() {
        Edge.sentence(3, "THE TAPE keeps its first n bytes: how many it had. BAD.");
        Edge.refused(Edge.Start.NEW, "end(0)", 0, x -> x.end(0));
        for (int n : new int[] {-1, 1, 160, Edge.LOW, Edge.HIGH}) {
            Edge.refused(Edge.Start.NEW, "end(" + n + ")", Edge.BAD, x -> x.end(n));
        }
        int some = Edge.Start.SOME.make().count(2);
        Edge.bounds(Edge.Start.SOME, "end", 0, some, (x, v) -> x.end(v));
        Edge.bounds(Edge.Start.ALL, "end", 0, 160, (x, v) -> x.end(v));
        Edge.refused(Edge.Start.SOME, "end of all", some, x -> x.end(some));
        Edge.refused(Edge.Start.ALL, "end(160)", 160, x -> x.end(160));
        for (int n = 0; n <= some; n++) {
            HauntSums x = Edge.Start.SOME.make();
            Edge.due("end(" + n + ")", x.end(n), some);
            Edge.due("count(2)", x.count(2), n);
        }
        HauntSums y = new HauntSums();
        Edge.feedAll(y, "plus 1 1 0;x");
        Edge.due("end(11)", y.end(11), 12);
        Edge.due("end(12), as it was", y.end(12), Edge.BAD);
        Edge.due("feed", y.feed(' '), 12);
        Edge.due("text", y.text(), 1);
        Edge.due("end(0) behind a text", y.end(0), 0);
        Edge.due("end(1) behind a text", y.end(1), Edge.BAD);
    }

    private static void text() {
        Edge.sentence(4, "THE TAPE (empty then) tells all: how many lines");
        Edge.textTaken("", 0);
        Edge.textTaken("plus 1 1 0;", 1);
        Edge.textTaken("plus 1 1 0;over 3 2 5;times 99 99 4;less 7 7 1;clerk 5 3;clerk 0 1;clerk 2 2;done 3 20;done 0 0;", 9);
        HauntSums x = new HauntSums();
        Edge.tell(x, "clerk 1 1;");
        Edge.due("text of what was told already", x.text(), 0);
        Edge.due("CLERKS", x.rule(1), 0);
        Edge.sentence(4, "-10 less the place of its FAULT: that which was told stays.");
        Edge.textRefused("!", 0, 1);
        Edge.textRefused("clerk 1 1;clerk 2 2", 19, 2);
        Edge.textRefused("clerk 1 1;clerk 2 4;", 18, 3);
        HauntSums y = Edge.Start.ALL.make();
        y.end(159);
        Edge.due("text of 159 bytes, the last ; is off", y.text(), -169);
        Edge.due("GHOSTS", y.rule(0), 4);
        Edge.due("NIGHT", y.rule(2), 7);
        Edge.due("SEEN", y.count(0), 6);
        Edge.due("IMAGES", y.count(1), 2);
        Edge.due("bytes", y.count(2), 0);
    }

    private static void fault() {
        Edge.sentence(5, "The FAULT of the latest text(); 0.");
        HauntSums x = new HauntSums();
        Edge.due("fault() ahead of a text", x.fault(), 0);
        String[] texts = {"!", "x", "clerk 6 1;", "done 0 1;done 0 1;", "clerk 0 1;clerk 0 1;clerk 0 1;clerk 0 1;", "done 0 1;"};
        for (int i = 0; i < texts.length; i++) {
            Edge.tell(x, texts[i]);
            Edge.due("fault() of '" + texts[i] + "'", x.fault(), i + 1);
            Edge.due("fault(), asked again", x.fault(), i + 1);
            Edge.feedAll(x, "plus");
            Edge.due("fault(), more is on the tape", x.fault(), i + 1);
            x.end(0);
        }
        x.keep(0);
        x.back(0);
        x.nights(1);
        x.read(0, 0, 0, 1);
        Edge.due("fault(), behind other calls", x.fault(), 6);
        Edge.due("text()", x.text(), 0);
        Edge.due("fault(), one that is taken", x.fault(), 0);
        for (Edge.Start start : Edge.Start.values()) {
            Edge.changesNothing(start, "fault()", y -> y.fault());
        }
    }

    private static void rule() {
        Edge.sentence(6, "0 GHOSTS, 1 CLERKS, 2 NIGHT, 3 GHOSTS that REST (bits), 4 what is LEFT of all, 5 CREAKS of all. BAD.");
        for (Edge.Start start : Edge.Start.values()) {
            Edge.bounds(start, "rule", 0, 5, (x, v) -> x.rule(v));
            for (int what = 0; what <= 5; what++) {
                int w = what;
                Edge.changesNothing(start, "rule(" + what + ")", x -> x.rule(w));
            }
        }
        HauntSums x = Edge.town("times 99 99 0;over 1 2 1;plus 70 7 2;less 77 7 3;done 0 20;done 1 1;done 2 2;done 3 3;");
        Edge.due("all REST", x.rule(3), 15);
        Edge.due("LEFT of all", x.rule(4), 0);
        // 70 7 77 and 77 7 70
        Edge.due("CREAKS of all", x.rule(5), 4 + 4);
        x.alter(0, 1, 77);
        // and 77 99 7623
        Edge.due("CREAKS of all", x.rule(5), 3 + 4 + 4);
        x.alter(0, 4, 7);
        Edge.due("all but one REST", x.rule(3), 14);
        x.alter(3, 4, 2);
        Edge.due("all but two REST", x.rule(3), 6);
        Edge.due("LEFT of all", x.rule(4), 2);
        HauntSums y = new HauntSums();
        for (int g = 0; g < 4; g++) {
            y.leave(2, 99, 99, 0);
            Edge.due("GHOSTS", y.rule(0), g + 1);
            Edge.due("none RESTS", y.rule(3), 0);
            Edge.due("LEFT of all", y.rule(4), 8 * (g + 1));
        }
        Edge.due("CLERKS", Edge.Start.ALL.make().rule(1), 3);
        Edge.due("NIGHT", Edge.Start.LATE.make().rule(2), 999);
    }

    private static void ghost() {
        Edge.sentence(7, "Of a GHOST: 0 KIND, 1 A, 2 B, 3 ROOM, 4 DONE, 5 ANSWER, 6 STEPS, 7 LEFT, 8 PACE, 9 CREAKS. BAD.");
        for (int what = 0; what <= 9; what++) {
            int w = what;
            Edge.bounds(Edge.Start.SOME, "GHOST", 0, 1, (x, v) -> x.ghost(v, w));
            Edge.bounds(Edge.Start.ALL, "GHOST", 0, 3, (x, v) -> x.ghost(v, w));
            Edge.nothingThere(Edge.Start.NEW, "GHOST", (x, v) -> x.ghost(v, w));
            Edge.changesNothing(Edge.Start.ALL, "ghost", x -> x.ghost(3, w));
        }
        for (int g = 0; g < 4; g++) {
            int which = g;
            Edge.bounds(Edge.Start.ALL, "ghost", 0, 9, (x, v) -> x.ghost(which, v));
        }
        int[] least = {0, 1, 1, 0, 0, 2, 1, 1, 2, 0};
        int[] most = {2, 99, 99, 5, 20, 9801, 8, 0, 3, 0};
        HauntSums x = Edge.town("plus 1 1 0;times 99 99 5;done 1 20;");
        for (int what = 0; what <= 9; what++) {
            Edge.due("ghost(0, " + what + ")", x.ghost(0, what), least[what]);
            Edge.due("ghost(1, " + what + ")", x.ghost(1, what), most[what]);
        }
    }

    private static void clerk() {
        Edge.sentence(8, "Of a CLERK: 0 ROOM, 1 SKILL. BAD.");
        for (int what = 0; what <= 1; what++) {
            int w = what;
            Edge.bounds(Edge.Start.SOME, "CLERK", 0, 1, (x, v) -> x.clerk(v, w));
            Edge.bounds(Edge.Start.ALL, "CLERK", 0, 2, (x, v) -> x.clerk(v, w));
            Edge.nothingThere(Edge.Start.NEW, "CLERK", (x, v) -> x.clerk(v, w));
            Edge.changesNothing(Edge.Start.ALL, "clerk", x -> x.clerk(2, w));
        }
        for (int c = 0; c < 3; c++) {
            int which = c;
            Edge.bounds(Edge.Start.ALL, "clerk", 0, 1, (x, v) -> x.clerk(which, v));
        }
        HauntSums x = Edge.town("clerk 0 1;clerk 5 3;");
        Edge.due("ROOM of 0", x.clerk(0, 0), 0);
        Edge.due("SKILL of 0", x.clerk(0, 1), 1);
        Edge.due("ROOM of 1", x.clerk(1, 0), 5);
        Edge.due("SKILL of 1", x.clerk(1, 1), 3);
    }

    private static void alter() {
        Edge.sentence(9, "KIND, A, B, ROOM, DONE (what 0 to 4) of a GHOST becomes v: what it was. BAD.");
        int[] least = {0, 1, 1, 0, 0};
        int[] most = {3, 99, 99, 5, 20};
        for (int what = 0; what <= 4; what++) {
            int w = what;
            Edge.bounds(Edge.Start.SOME, "alter " + what, least[what], most[what], (x, v) -> x.alter(1, w, v));
            Edge.bounds(Edge.Start.LATE, "alter " + what, least[what], most[what], (x, v) -> x.alter(0, w, v));
            Edge.bounds(Edge.Start.SOME, "GHOST", 0, 1, (x, v) -> x.alter(v, w, 1));
            Edge.bounds(Edge.Start.ALL, "GHOST", 0, 3, (x, v) -> x.alter(v, w, 1));
            Edge.nothingThere(Edge.Start.NEW, "GHOST", (x, v) -> x.alter(v, w, 1));
            HauntSums x = Edge.Start.SOME.make();
            int was = x.ghost(0, what);
            Edge.due("alter to the least", x.alter(0, what, least[what]), was);
            Edge.due("alter to the most", x.alter(0, what, most[what]), least[what]);
            Edge.due("alter to the same", x.alter(0, what, most[what]), most[what]);
            Edge.due("it is so", x.ghost(0, what), most[what]);
            Edge.refused(Edge.Start.SOME, "alter as it is", Edge.Start.SOME.make().ghost(1, w), y -> y.alter(1, w, y.ghost(1, w)));
        }
        Edge.bounds(Edge.Start.SOME, "what", 0, 4, (x, v) -> x.alter(0, v, 1));
    }

    private static void alterLeavesTheRest() {
        Edge.sentence(9, "of a GHOST becomes v");
        for (int what = 0; what <= 4; what++) {
            HauntSums x = Edge.Start.ALL.make();
            HauntSums y = Edge.Start.ALL.make();
            x.alter(2, what, 3);
            for (int g = 0; g < 4; g++) {
                for (int other = 0; other <= 4; other++) {
                    Edge.due("ghost(" + g + ", " + other + ")", x.ghost(g, other), g == 2 && other == what ? 3 : y.ghost(g, other));
                }
            }
            Edge.due("SEEN", x.count(0), 6);
            Edge.due("back(1)", x.back(1), 7);
            Edge.due("as it was", x.ghost(2, what), y.ghost(2, what));
        }
    }

    private static void post() {
        Edge.sentence(10, "ROOM, SKILL (what 0, 1) of a CLERK becomes v: what it was. BAD.");
        int[] least = {0, 1};
        int[] most = {5, 3};
        for (int what = 0; what <= 1; what++) {
            int w = what;
            Edge.bounds(Edge.Start.SOME, "post " + what, least[what], most[what], (x, v) -> x.post(1, w, v));
            Edge.bounds(Edge.Start.LATE, "post " + what, least[what], most[what], (x, v) -> x.post(0, w, v));
            Edge.bounds(Edge.Start.SOME, "CLERK", 0, 1, (x, v) -> x.post(v, w, 1));
            Edge.bounds(Edge.Start.ALL, "CLERK", 0, 2, (x, v) -> x.post(v, w, 1));
            Edge.nothingThere(Edge.Start.NEW, "CLERK", (x, v) -> x.post(v, w, 1));
            for (int c = 0; c < 3; c++) {
                HauntSums x = Edge.Start.ALL.make();
                int was = x.clerk(c, what);
                Edge.due("post to the least", x.post(c, what, least[what]), was);
                Edge.due("post to the most", x.post(c, what, most[what]), least[what]);
                Edge.due("post to the same", x.post(c, what, most[what]), most[what]);
                HauntSums y = Edge.Start.ALL.make();
                for (int other = 0; other < 6; other++) {
                    boolean changed = other / 2 == c && other % 2 == what;
                    Edge.due("clerk", x.clerk(other / 2, other % 2), changed ? most[what] : y.clerk(other / 2, other % 2));
                }
            }
        }
        Edge.bounds(Edge.Start.SOME, "what", 0, 1, (x, v) -> x.post(0, v, 1));
    }

    private static void leave() {
        Edge.sentence(11, "A GHOST more, DONE 0: its number. BAD");
        for (Edge.Start start : new Edge.Start[] {Edge.Start.NEW, Edge.Start.SOME, Edge.Start.LATE}) {
            Edge.bounds(start, "KIND", 0, 3, (x, v) -> x.leave(v, 1, 1, 0));
            Edge.bounds(start, "A", 1, 99, (x, v) -> x.leave(0, v, 1, 0));
            Edge.bounds(start, "B", 1, 99, (x, v) -> x.leave(3, 1, v, 0));
            Edge.bounds(start, "ROOM", 0, 5, (x, v) -> x.leave(0, 1, 1, v));
        }
        HauntSums x = new HauntSums();
        int[][] sums = {{0, 1, 99, 5}, {3, 99, 1, 0}, {2, 99, 99, 3}, {1, 1, 1, 2}};
        for (int g = 0; g < 4; g++) {
            Edge.due("leave", x.leave(sums[g][0], sums[g][1], sums[g][2], sums[g][3]), g);
            for (int what = 0; what <= 4; what++) {
                Edge.due("ghost(" + g + ", " + what + ")", x.ghost(g, what), what == 4 ? 0 : sums[g][what]);
            }
        }
        Edge.sentence(11, "FULL");
        Edge.due("the 5th", x.leave(0, 1, 1, 0), Edge.FULL);
        Edge.due("GHOSTS", x.rule(0), 4);
        Edge.due("B of GHOST 3", x.ghost(3, 2), 1);
        for (int kind = 0; kind <= 3; kind++) {
            int k = kind;
            Edge.refused(Edge.Start.ALL, "the 5th of KIND " + kind, Edge.FULL, y -> y.leave(k, 99, 99, 5));
        }
        for (int g = 0; g < 4; g++) {
            HauntSums y = new HauntSums();
            for (int i = 0; i < g; i++) {
                y.leave(0, 1, 1, 0);
            }
            Edge.due("leave, bad, with " + g, y.leave(0, 0, 1, 0), Edge.BAD);
            Edge.due("leave with " + g, y.leave(0, 1, 1, 0), g);
        }
    }

    public static void main(String[] args) throws IOException {
        newObject();
        nothingThere();
        feed();
        end();
        text();
        fault();
        rule();
        ghost();
        clerk();
        alter();
        alterLeavesTheRest();
        post();
        leave();
        Edge.finish(1, 2, 3, 4, 5, 6, 7, 8, 9, 10, 11);
    }
}
