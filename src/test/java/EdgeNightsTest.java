import java.io.IOException;

/** Promises 12 to 17, nights: each sentence that names an edge, by a test of its own. */
public final class EdgeNightsTest {
    /** Two that go 1 room a night: 8 STEPS and 2, by a clerk of SKILL 1 every sixth night; 60 till the second RESTS. */
    private static final String SIXTY = "times 49 25 1;plus 6 7 1;clerk 0 1;";
    /** The same, 1 STEP more, and from his room on: it is the 61st night. */
    private static final String SIXTY_ONE = "times 49 25 0;plus 93 10 0;clerk 0 1;";

    private static HauntSums late(int night) {
        HauntSums x = Edge.town("over 1 2 3;clerk 4 1;");
        for (int i = 0; i < night / 30; i++) {
            x.nights(30);
        }
        x.nights(night % 30);
        return x;
    }

    private static void nights() {
        Edge.sentence(12, "n NIGHTS go (0 to 30): HARM of them. BAD");
        for (Edge.Start start : new Edge.Start[] {Edge.Start.NEW, Edge.Start.SOME, Edge.Start.ALL}) {
            Edge.bounds(start, "nights", 0, 30, (x, v) -> x.nights(v));
        }
        for (Edge.Start start : Edge.Start.values()) {
            Edge.refused(start, "nights(0)", 0, x -> x.nights(0));
        }
        HauntSums x = Edge.town("over 1 2 3;times 2 3 5;");
        Edge.due("nights(30)", x.nights(30), 90);
        Edge.due("NIGHT", x.rule(2), 30);
        Edge.due("nights(1)", x.nights(1), 3);
        Edge.due("NIGHT", x.rule(2), 31);
        HauntSums y = Edge.town("times 99 99 0;times 99 99 0;times 99 99 1;times 99 99 2;");
        Edge.due("nights(30), the most HARM", y.nights(30), 4 * 8 * 30);
        Edge.due("nights(30) of nothing", new HauntSums().nights(30), 0);
    }

    private static void nightsFull() {
        Edge.sentence(12, "FULL: NIGHT would be 1000 or more.");
        for (int n = 1; n <= 30; n++) {
            HauntSums x = late(1000 - n);
            Edge.due("nights(" + n + ") at " + (1000 - n), x.nights(n), Edge.FULL);
            Edge.due("NIGHT", x.rule(2), 1000 - n);
            Edge.due("nights(" + (n - 1) + ")", x.nights(n - 1), n - 1);
            Edge.due("NIGHT", x.rule(2), 999);
            int night = n;
            Edge.refused(Edge.Start.LATE, "nights(" + n + ")", Edge.FULL, y -> y.nights(night));
        }
        HauntSums z = late(970);
        Edge.due("nights(30) at 970", z.nights(30), Edge.FULL);
        HauntSums w = late(969);
        Edge.due("nights(30) at 969", w.nights(30), 30);
        Edge.due("NIGHT", w.rule(2), 999);
        Edge.due("nights(0) at 999", w.nights(0), 0);
        Edge.due("nights(-1) at 999", w.nights(-1), Edge.BAD);
    }

    private static void runs() {
        Edge.sentence(13, "BY NIGHTS, n of them (0 to 60): HARM (what 0), GHOSTS that REST then (1; bits), what is LEFT of all (2)");
        for (Edge.Start start : Edge.Start.values()) {
            for (int what = 0; what <= 3; what++) {
                int w = what;
                Edge.bounds(start, "runs what " + what, 0, 60, (x, v) -> x.runs(v, w));
                Edge.changesNothing(start, "runs(60, " + what + ")", x -> x.runs(60, w));
            }
            Edge.due("no HARM in no NIGHTS", start.make().runs(0, 0), 0);
            Edge.due("REST then, behind none", start.make().runs(0, 1), start.make().rule(3));
            Edge.due("LEFT then, behind none", start.make().runs(0, 2), start.make().rule(4));
        }
        HauntSums x = Edge.town("times 99 99 0;times 99 99 0;times 99 99 1;times 99 99 2;");
        Edge.due("runs(60, 0), the most HARM", x.runs(60, 0), 4 * 8 * 60);
        Edge.due("runs(60, 1)", x.runs(60, 1), 0);
        Edge.due("runs(60, 2)", x.runs(60, 2), 32);
        HauntSums y = Edge.town(SIXTY);
        Edge.due("runs(59, 1)", y.runs(59, 1), 1);
        Edge.due("runs(60, 1)", y.runs(60, 1), 3);
        Edge.due("runs(59, 2)", y.runs(59, 2), 1);
        Edge.due("runs(60, 2)", y.runs(60, 2), 0);
        Edge.due("runs(60, 0) is as runs(59, 0): all REST in the last", y.runs(60, 0), y.runs(59, 0));
    }

    private static void runsTillAllRest() {
        Edge.sentence(13, "behind how many all REST first (3; 0: they do; NONE). BAD.");
        Edge.due("no GHOSTS: all REST", new HauntSums().runs(0, 3), 0);
        HauntSums x = Edge.town("plus 1 1 0;times 99 99 3;done 0 1;done 1 20;");
        Edge.due("all REST already", x.runs(0, 3), 0);
        Edge.due("all REST already", x.runs(60, 3), 0);
        x.alter(1, 4, 7);
        Edge.due("all but one", x.runs(0, 3), Edge.NONE);
        Edge.due("all but one, no CLERK", x.runs(60, 3), Edge.NONE);
        HauntSums y = Edge.town(SIXTY);
        Edge.due("runs(59, 3)", y.runs(59, 3), Edge.NONE);
        Edge.due("runs(60, 3)", y.runs(60, 3), 60);
        HauntSums z = Edge.town("over 1 2 3;clerk 3 1;");
        Edge.due("runs(0, 3)", z.runs(0, 3), Edge.NONE);
        Edge.due("runs(1, 3)", z.runs(1, 3), 1);
        Edge.due("runs(2, 3)", z.runs(2, 3), 1);
        for (Edge.Start start : Edge.Start.values()) {
            for (int n : new int[] {0, 60}) {
                Edge.bounds(start, "what", 0, 3, (w, v) -> w.runs(n, v));
            }
        }
    }

    private static void ahead() {
        Edge.sentence(14, "BY NIGHTS, n of them (0 to 60): ROOM of a GHOST (what 0), what is LEFT of it (1). BAD.");
        for (int what = 0; what <= 1; what++) {
            int w = what;
            Edge.bounds(Edge.Start.SOME, "NIGHTS", 0, 60, (x, v) -> x.ahead(1, v, w));
            Edge.bounds(Edge.Start.LATE, "NIGHTS", 0, 60, (x, v) -> x.ahead(0, v, w));
            Edge.bounds(Edge.Start.SOME, "GHOST", 0, 1, (x, v) -> x.ahead(v, 60, w));
            Edge.bounds(Edge.Start.ALL, "GHOST", 0, 3, (x, v) -> x.ahead(v, 0, w));
            Edge.nothingThere(Edge.Start.NEW, "GHOST", (x, v) -> x.ahead(v, 0, w));
            for (Edge.Start start : Edge.Start.values()) {
                Edge.changesNothing(start, "ahead", x -> x.ahead(0, 60, w));
            }
        }
        Edge.bounds(Edge.Start.SOME, "what", 0, 1, (x, v) -> x.ahead(0, 1, v));
        for (int g = 0; g < 4; g++) {
            HauntSums x = Edge.Start.ALL.make();
            Edge.due("ROOM behind none", x.ahead(g, 0, 0), x.ghost(g, 3));
            Edge.due("LEFT behind none", x.ahead(g, 0, 1), x.ghost(g, 7));
        }
        HauntSums y = Edge.town(SIXTY);
        // from ROOM 1, 1 room a night, till it RESTS in ROOM 0 in the last
        Edge.due("ROOM behind 59", y.ahead(1, 59, 0), 0);
        Edge.due("ROOM behind 60", y.ahead(1, 60, 0), 0);
        Edge.due("LEFT behind 59", y.ahead(1, 59, 1), 1);
        Edge.due("LEFT behind 60", y.ahead(1, 60, 1), 0);
        HauntSums z = Edge.town("plus 6 7 5;");
        for (int n = 0; n <= 60; n++) {
            Edge.due("ROOM behind " + n, z.ahead(0, n, 0), (5 + n) % 6);
        }
    }

    private static void rests() {
        Edge.sentence(15, "BY NIGHTS: behind how many (0 to 60) a GHOST RESTS first. BAD");
        Edge.bounds(Edge.Start.SOME, "rests", 0, 1, (x, v) -> x.rests(v));
        Edge.bounds(Edge.Start.ALL, "rests", 0, 3, (x, v) -> x.rests(v));
        Edge.nothingThere(Edge.Start.NEW, "rests", (x, v) -> x.rests(v));
        for (int g = 0; g < 4; g++) {
            int which = g;
            Edge.changesNothing(Edge.Start.ALL, "rests", x -> x.rests(which));
        }
        HauntSums x = Edge.town("over 1 2 3;over 1 2 4;clerk 4 1;done 0 1;");
        Edge.due("it RESTS already", x.rests(0), 0);
        Edge.due("it RESTS behind the first", x.rests(1), 1);
        Edge.due("the last that counts", Edge.town(SIXTY).rests(1), 60);
        Edge.sentence(15, "NONE: behind none.");
        // 8 STEPS in NIGHTS 1, 7 .. 43, 3 more in 49, 55, 61
        HauntSums y = Edge.town(SIXTY_ONE);
        Edge.due("the first that is too late", y.rests(1), Edge.NONE);
        Edge.due("all REST too late", y.runs(60, 3), Edge.NONE);
        y.nights(1);
        Edge.due("a NIGHT later", y.rests(1), 60);
        HauntSums z = Edge.town("times 49 25 1;plus 93 10 1;clerk 0 1;");
        Edge.due("one STEP more than 60 NIGHTS do", z.rests(1), Edge.NONE);
        z.alter(1, 4, 1);
        Edge.due("one STEP less", z.rests(1), 60);
        Edge.refused(Edge.Start.LATE, "rests: no CLERK comes", Edge.NONE, w -> w.rests(0));
    }

    private static void meets() {
        Edge.sentence(16, "BY NIGHTS: behind how many (0 to 60) a GHOST that does not REST is first in the ROOM of a CLERK. BAD");
        for (int c = 0; c < 2; c++) {
            int clerk = c;
            Edge.bounds(Edge.Start.SOME, "GHOST", 0, 1, (x, v) -> x.meets(v, clerk));
            Edge.bounds(Edge.Start.ALL, "GHOST", 0, 3, (x, v) -> x.meets(v, clerk));
        }
        Edge.bounds(Edge.Start.SOME, "CLERK", 0, 1, (x, v) -> x.meets(1, v));
        Edge.bounds(Edge.Start.ALL, "CLERK", 0, 2, (x, v) -> x.meets(3, v));
        Edge.nothingThere(Edge.Start.NEW, "GHOST", (x, v) -> x.meets(v, 0));
        Edge.nothingThere(Edge.Start.NEW, "CLERK", (x, v) -> x.meets(0, v));
        for (Edge.Start start : Edge.Start.values()) {
            Edge.changesNothing(start, "meets", x -> x.meets(0, 0));
        }
        for (int room = 0; room <= 5; room++) {
            HauntSums x = Edge.town("plus 6 7 4;clerk 0 1;");
            x.post(0, 0, room);
            Edge.due("meets in ROOM " + room, x.meets(0, 0), (room + 2) % 6);
            x.alter(0, 2, 11);
            Edge.due("meets in ROOM " + room + ", 5 a night", x.meets(0, 0), (10 - room) % 6);
        }
        Edge.sentence(16, "NONE: behind none.");
        HauntSums y = Edge.town("plus 6 7 4;over 1 2 3;clerk 4 1;clerk 3 1;clerk 5 3;");
        Edge.due("it stays where he is not", y.meets(1, 0), Edge.NONE);
        Edge.due("it stays where he is", y.meets(1, 1), 0);
        y.alter(1, 4, 1);
        Edge.due("it RESTS where he is", y.meets(1, 1), Edge.NONE);
        // 13: 2 STEPS, 1 by the clerk in 4, the last by the one in 5, ahead of him in 3
        Edge.due("it RESTS ahead of him", y.meets(0, 1), Edge.NONE);
        Edge.due("it is there when it RESTS in that NIGHT", y.meets(0, 2), 1);
        Edge.refused(Edge.Start.LATE, "meets", Edge.NONE, x -> x.meets(0, 0));
    }

    private static void harm() {
        Edge.sentence(17, "BY NIGHTS: HARM done in a ROOM in n NIGHTS (0 to 60). BAD.");
        for (Edge.Start start : Edge.Start.values()) {
            Edge.bounds(start, "NIGHTS", 0, 60, (x, v) -> x.harm(3, v));
            Edge.bounds(start, "ROOM", 0, 5, (x, v) -> x.harm(v, 60));
            for (int room = 0; room <= 5; room++) {
                int r = room;
                Edge.changesNothing(start, "harm", x -> x.harm(r, 60));
                Edge.refused(start, "harm of no NIGHTS", 0, x -> x.harm(r, 0));
            }
        }
        HauntSums x = Edge.town("times 97 25 5;times 97 25 5;times 97 25 5;over 1 2 5;");
        // 2425: 8 STEPS, 1 on: ROOM 5 in NIGHTS 1, 7 .. 55, and 1 that stays
        Edge.due("harm(5, 60)", x.harm(5, 60), 24 * 10 + 60);
        Edge.due("harm(0, 1)", x.harm(0, 1), 0);
        Edge.due("harm(0, 2): round the ring", x.harm(0, 2), 24);
        Edge.due("harm(4, 5)", x.harm(4, 5), 0);
        Edge.due("harm(4, 6)", x.harm(4, 6), 24);
        int sum = 0;
        for (int room = 0; room <= 5; room++) {
            sum += x.harm(room, 60);
        }
        Edge.due("HARM of all ROOMS", sum, x.runs(60, 0));
    }

    public static void main(String[] args) throws IOException {
        nights();
        nightsFull();
        runs();
        runsTillAllRest();
        ahead();
        rests();
        meets();
        harm();
        Edge.finish(12, 13, 14, 15, 16, 17);
    }
}
