import java.io.IOException;

/** Promises 25 to 30, which sum it is, nights by a seed: each sentence that names an edge, by a test of its own. */
public final class EdgeSeenTest {
    private static void see() {
        Edge.sentence(25, "SEEN: behind n NIGHTS (0 to 20) a GHOST is in a ROOM: how many are. BAD");
        for (Edge.Start start : new Edge.Start[] {Edge.Start.SOME, Edge.Start.LATE}) {
            Edge.bounds(start, "GHOST", 0, 1, (x, v) -> x.see(v, 0, 0));
            Edge.bounds(start, "NIGHTS", 0, 20, (x, v) -> x.see(1, v, 5));
            Edge.bounds(start, "ROOM", 0, 5, (x, v) -> x.see(0, 20, v));
        }
        Edge.nothingThere(Edge.Start.NEW, "GHOST", (x, v) -> x.see(v, 0, 0));
        HauntSums x = Edge.town("plus 1 1 0;plus 1 1 0;plus 1 1 0;plus 1 1 0;");
        Edge.due("GHOST 4", x.see(4, 0, 0), Edge.BAD);
        Edge.due("GHOST 3", x.see(3, 20, 5), 1);
        Edge.due("the same again is one more", x.see(3, 20, 5), 2);
        Edge.due("what is not so is SEEN too", x.see(3, 20, 4), 3);
        Edge.sentence(25, "FULL.");
        Edge.due("the 4th", x.see(0, 0, 0), 4);
        Edge.due("the 5th", x.see(0, 0, 0), 5);
        Edge.due("the 6th", x.see(0, 0, 0), 6);
        Edge.due("the 7th", x.see(0, 0, 0), Edge.FULL);
        Edge.due("SEEN", x.count(0), 6);
        Edge.due("forget(5)", x.forget(5), 6);
        Edge.due("the 6th", x.see(0, 0, 0), 6);
        for (int g = 0; g < 4; g++) {
            int which = g;
            Edge.refused(Edge.Start.ALL, "the 7th", Edge.FULL, y -> y.see(which, 20, 5));
            Edge.refused(Edge.Start.ALL, "the 7th", Edge.FULL, y -> y.see(which, 0, 0));
        }
    }

    private static void forget() {
        Edge.sentence(26, "SEEN are the first n alone: how many there were. BAD.");
        Edge.refused(Edge.Start.NEW, "forget(0)", 0, x -> x.forget(0));
        for (int n : new int[] {-1, 1, 6, Edge.LOW, Edge.HIGH}) {
            Edge.refused(Edge.Start.NEW, "forget(" + n + ")", Edge.BAD, x -> x.forget(n));
        }
        Edge.bounds(Edge.Start.SOME, "forget", 0, 2, (x, v) -> x.forget(v));
        Edge.bounds(Edge.Start.ALL, "forget", 0, 6, (x, v) -> x.forget(v));
        Edge.refused(Edge.Start.SOME, "forget(2)", 2, x -> x.forget(2));
        Edge.refused(Edge.Start.ALL, "forget(6)", 6, x -> x.forget(6));
        for (int n = 0; n <= 6; n++) {
            // 13 goes 1 on; of the 6 that are SEEN the n-th is not so
            HauntSums x = Edge.town("plus 6 7 0;");
            for (int i = 1; i <= 6; i++) {
                x.see(0, i, (i == n ? i + 1 : i) % 6);
            }
            Edge.due("all are as SEEN, but for " + n, x.kinds(0) & 1, n == 0 ? 1 : 0);
            Edge.due("forget", x.forget(Math.max(0, n - 1)), 6);
            Edge.due("SEEN", x.count(0), Math.max(0, n - 1));
            Edge.due("the first are as SEEN", x.kinds(0) & 1, 1);
            Edge.due("forget again", x.forget(Math.max(0, n - 1)), Math.max(0, n - 1));
            Edge.due("what is forgotten is gone", x.forget(Math.max(0, n - 1) + 1), Edge.BAD);
        }
    }

    private static void kinds() {
        Edge.sentence(27, "KINDS of a GHOST (bits) by which, all else as it is, all is as SEEN. BAD.");
        Edge.bounds(Edge.Start.SOME, "kinds", 0, 1, (x, v) -> x.kinds(v));
        Edge.bounds(Edge.Start.ALL, "kinds", 0, 3, (x, v) -> x.kinds(v));
        Edge.nothingThere(Edge.Start.NEW, "kinds", (x, v) -> x.kinds(v));
        for (int g = 0; g < 4; g++) {
            int which = g;
            Edge.changesNothing(Edge.Start.ALL, "kinds", x -> x.kinds(which));
        }
        // 12 and 1: 13, 11, 12, 12: 1, 5, 0, 0 on
        HauntSums x = Edge.town("over 12 1 2;over 1 2 5;");
        Edge.due("nothing is SEEN", x.kinds(0), 15);
        x.see(0, 0, 2);
        Edge.due("where it is now", x.kinds(0), 15);
        int[] due = {12, 1, 0, 0, 0, 2};
        for (int on = 0; on < 6; on++) {
            x.see(0, 1, (2 + on) % 6);
            Edge.due("SEEN " + on + " on", x.kinds(0), due[on]);
            x.forget(1);
        }
        x.see(0, 20, (2 + 20) % 6);
        Edge.due("SEEN behind 20", x.kinds(0), 1);
        x.forget(0);
        x.see(0, 0, 3);
        Edge.due("it is not where it was SEEN", x.kinds(0), 0);
        Edge.due("nor is all else as SEEN", x.kinds(1), 0);
        x.forget(0);
        x.see(1, 20, 5);
        Edge.due("another is as SEEN", x.kinds(0), 15);
        x.see(1, 20, 4);
        Edge.due("another is in two ROOMS", x.kinds(0), 0);
        // of 1 and 2: 3 has 1 STEP, 1 has 2, 2 has 2, 0 has 1; those of 1 REST, and he does both STEPS of GHOST 1 at once
        HauntSums y = Edge.town("plus 1 2 3;plus 6 7 3;clerk 3 2;done 0 1;");
        y.see(1, 2, 3);
        Edge.due("by which he is free", y.kinds(0), 9);
    }

    private static void second() {
        Edge.sentence(28, "B (1 to 99) of a GHOST by which, all else as it is, all is as SEEN: how many (what 0), the least (1), the "
            + "greatest (2). BAD");
        for (int what = 0; what <= 2; what++) {
            int w = what;
            Edge.bounds(Edge.Start.SOME, "GHOST", 0, 1, (x, v) -> x.second(v, w));
            Edge.bounds(Edge.Start.ALL, "GHOST", 0, 3, (x, v) -> x.second(v, w));
            Edge.nothingThere(Edge.Start.NEW, "GHOST", (x, v) -> x.second(v, w));
            for (int g = 0; g < 4; g++) {
                int which = g;
                Edge.changesNothing(Edge.Start.ALL, "second", x -> x.second(which, w));
            }
        }
        Edge.bounds(Edge.Start.SOME, "what", 0, 2, (x, v) -> x.second(0, v));
        HauntSums x = Edge.town("plus 6 50 0;");
        Edge.due("nothing is SEEN", x.second(0, 0), 99);
        Edge.due("nothing is SEEN: the least", x.second(0, 1), 1);
        Edge.due("nothing is SEEN: the greatest", x.second(0, 2), 99);
        int[] many = {16, 17, 17, 17, 16, 16};
        int[] greatest = {96, 97, 98, 99, 94, 95};
        for (int room = 0; room <= 5; room++) {
            x.forget(0);
            x.see(0, 1, room);
            Edge.due("SEEN in ROOM " + room, x.second(0, 0), many[room]);
            Edge.due("the least", x.second(0, 1), room == 0 ? 6 : room);
            Edge.due("the greatest", x.second(0, 2), greatest[room]);
        }
        Edge.sentence(28, "NONE (1, 2): there are none.");
        x.see(0, 0, 1);
        Edge.due("how many", x.second(0, 0), 0);
        Edge.due("the least", x.second(0, 1), Edge.NONE);
        Edge.due("the greatest", x.second(0, 2), Edge.NONE);
        Edge.due("what 3", x.second(0, 3), Edge.BAD);
        // 98 over 1, 3, 7 is 98, 32, 14: 3 STEPS, 2 on, with the clerk in 0 each third NIGHT, till it RESTS there
        HauntSums y = Edge.town("over 98 1 0;clerk 0 1;clerk 3 1;");
        y.see(0, 1, 2);
        y.see(0, 4, 2);
        y.see(0, 7, 0);
        y.see(0, 20, 0);
        Edge.due("how many", y.second(0, 0), 3);
        Edge.due("the least is 1", y.second(0, 1), 1);
        Edge.due("the greatest", y.second(0, 2), 7);
    }

    private static void look() {
        Edge.sentence(29, "Behind how many NIGHTS (0 to 20) to look in which ROOM a GHOST is, so that of B that it may have fewest are "
            + "left at the worst, fewer than now, the first (what 0), how many these are (1). BAD");
        for (int what = 0; what <= 1; what++) {
            int w = what;
            Edge.bounds(Edge.Start.SOME, "GHOST", 0, 1, (x, v) -> x.look(v, w));
            Edge.bounds(Edge.Start.ALL, "GHOST", 0, 3, (x, v) -> x.look(v, w));
            Edge.nothingThere(Edge.Start.NEW, "GHOST", (x, v) -> x.look(v, w));
            for (int g = 0; g < 4; g++) {
                int which = g;
                Edge.changesNothing(Edge.Start.ALL, "look", x -> x.look(which, w));
            }
        }
        Edge.bounds(Edge.Start.SOME, "what", 0, 1, (x, v) -> x.look(0, v));
        HauntSums x = Edge.town("plus 6 50 0;");
        Edge.due("1 and 5 NIGHTS tell alike: the first", x.look(0, 0), 1);
        Edge.due("of 99", x.look(0, 1), 17);
        // 2 on behind 2, 8 .. NIGHTS: B is 1 or 4 modulo 6; which, 1 NIGHT tells
        x.see(0, 2, 2);
        Edge.due("which of two", x.look(0, 0), 1);
        Edge.due("which of two", x.look(0, 1), 17);
        Edge.due("of so many", x.second(0, 0), 33);
        // B is 0 or 3 modulo 6: 16 and 17, with 99
        x.forget(0);
        x.see(0, 2, 0);
        Edge.due("the greatest B is one of them", x.look(0, 1), 17);
        // 5 over B is 5 2 1 1 1, then 0, 94 times
        HauntSums over = Edge.town("over 5 1 3;");
        Edge.due("most stay", over.look(0, 0), 1);
        Edge.due("most stay", over.look(0, 1), 94);
        // of 2, 8 .. 98 the first alone has 1 STEP: it RESTS where the clerk is, the others go on
        HauntSums fewer = Edge.town("plus 6 50 1;clerk 3 1;");
        fewer.see(0, 1, 3);
        Edge.due("of so many", fewer.second(0, 0), 17);
        Edge.due("one fewer", fewer.look(0, 0), 2);
        Edge.due("one fewer", fewer.look(0, 1), 16);
        // 1 room a night (B 1, 7 .. 97), 1 STEP of 2, 4 or 6 each sixth: what has 4 RESTS in the 20th NIGHT
        HauntSums last = Edge.town("times 13 1 5;clerk 0 1;");
        last.see(0, 1, 0);
        Edge.due("the last NIGHT that counts", last.look(0, 0), 20);
        Edge.due("how many", last.look(0, 1), 15);
    }

    private static void lookNone() {
        Edge.sentence(29, "NONE: behind none.");
        // likewise, but what has 4 RESTS in the 21st
        HauntSums x = Edge.town("times 13 1 4;clerk 0 1;");
        x.see(0, 1, 5);
        Edge.due("the first NIGHT that is too late", x.look(0, 0), Edge.NONE);
        Edge.due("the first NIGHT that is too late", x.look(0, 1), Edge.NONE);
        HauntSums rests = Edge.town("plus 1 1 4;done 0 20;");
        Edge.due("it RESTS by all", rests.look(0, 0), Edge.NONE);
        Edge.due("it RESTS by all", rests.look(0, 1), Edge.NONE);
        HauntSums none = Edge.town("plus 1 1 4;");
        none.see(0, 0, 5);
        Edge.due("none is as SEEN", none.look(0, 0), Edge.NONE);
        Edge.due("none is as SEEN", none.look(0, 1), Edge.NONE);
        // 98 over 1, 3, 7: 3 STEPS, 2 on, in step for good
        HauntSums three = Edge.town("over 98 1 0;clerk 0 1;clerk 3 1;");
        three.see(0, 1, 2);
        three.see(0, 7, 0);
        Edge.due("of three that are in step", three.second(0, 0), 3);
        Edge.due("of three that are in step", three.look(0, 0), Edge.NONE);
        // 99 over 6 is 16, and walks 4 on; no other that does not REST at once does so
        HauntSums one = Edge.town("over 99 6 0;clerk 0 1;");
        one.see(0, 1, 4);
        Edge.due("of one", one.second(0, 0), 1);
        Edge.due("of one", one.look(0, 0), Edge.NONE);
        Edge.due("of one", one.look(0, 1), Edge.NONE);
    }

    private static void drift() {
        Edge.sentence(30, "By itself, n NIGHTS (1 to 60) by a seed");
        for (int what = 0; what <= 1; what++) {
            int w = what;
            for (Edge.Start start : new Edge.Start[] {Edge.Start.SOME, Edge.Start.ALL, Edge.Start.LATE}) {
                Edge.bounds(start, "NIGHTS", 1, 60, (x, v) -> x.drift(7, v, w));
                for (int seed : new int[] {0, 1, -1, Edge.LOW, Edge.HIGH}) {
                    Edge.changesNothing(start, "drift by " + seed, x -> x.drift(seed, 60, w));
                }
            }
        }
        Edge.sentence(30, "HARM (what 0), GHOSTS that REST in the end (1; bits). BAD");
        Edge.bounds(Edge.Start.SOME, "what", 0, 1, (x, v) -> x.drift(7, 1, v));
        Edge.bounds(Edge.Start.ALL, "what", 0, 1, (x, v) -> x.drift(7, 60, v));
        HauntSums x = Edge.town("times 40 30 3;over 1 2 4;clerk 0 1;done 1 20;");
        Edge.due("none comes", x.drift(0, 1, 0), 8);
        Edge.due("it RESTS in the end as it did", x.drift(0, 1, 1), 2);
        Edge.sentence(30, "STATE: there are no CLERKS.");
        for (int seed : new int[] {0, Edge.LOW, Edge.HIGH}) {
            Edge.refused(Edge.Start.NEW, "drift by " + seed, Edge.STATE, y -> y.drift(seed, 1, 0));
            Edge.refused(Edge.Start.NEW, "drift by " + seed, Edge.STATE, y -> y.drift(seed, 60, 1));
        }
        HauntSums none = Edge.town("plus 1 1 0;");
        Edge.due("a GHOST, but no CLERKS", none.drift(1, 1, 0), Edge.STATE);
        Edge.due("a CLERK, but no GHOSTS", Edge.town("clerk 1 1;").drift(1, 60, 0), 0);
    }

    /** By one night of the seed this CLERK of so many is in this ROOM, and none else is where a GHOST is. */
    private static void oneDrift(int seed, int clerks, int clerk, int room) {
        for (int r = 0; r <= 5; r++) {
            // 1200 stays, 8 STEPS; CLERK 0 does 1 of them, CLERK 1 2, CLERK 2 3
            HauntSums x = Edge.town("clerk 0 1;clerk 0 2;clerk 0 3;".substring(0, 10 * clerks));
            x.leave(2, 40, 30, r);
            for (int c = 0; c < clerks; c++) {
                x.post(c, 0, (r + 1) % 6);
            }
            Edge.due("drift by " + seed + " with a GHOST in " + r, x.drift(seed, 1, 0), r == room ? 8 - (clerk + 1) : 8);
        }
    }

    private static void driftBySeed() {
        Edge.sentence(30, "ahead of each the seed becomes seed times 1103515245 and 12345; bits 16 to 30 of it are got: the CLERK got "
            + "modulo CLERKS is in the ROOM got by 8 (down) modulo 6");
        for (int clerks = 1; clerks <= 3; clerks++) {
            // 0 becomes 12345, and the lowest int 2147483648 more: bit 31 alone, so that 0 is got
            oneDrift(0, clerks, 0, 0);
            oneDrift(Edge.LOW, clerks, 0, 0);
            // -1 becomes 3191464396 (wrapped around), the highest int 1043980748: 15929 is got; 1991 is 5 modulo 6
            oneDrift(-1, clerks, 15929 % clerks, 5);
            oneDrift(Edge.HIGH, clerks, 15929 % clerks, 5);
            // 1 becomes 1103527590: 16838 is got; 2104 is 4 modulo 6
            oneDrift(1, clerks, 16838 % clerks, 4);
        }
        for (int i = 0; i < 65536; i++) {
            long becomes = i * 1103515245L + 12345;
            // its lowest 16 bits are 0, or 65535: 1 less, or 1 more, and other bits are got
            boolean edge = becomes % 65536 == 0 || becomes % 65536 == 65535;
            if (edge || i % 3001 == 0) {
                int got = (int) (becomes / 65536 % 32768);
                oneDrift(i, 2, got % 2, got / 8 % 6);
                oneDrift(i, 3, got % 3, got / 8 % 6);
                oneDrift(i + Edge.LOW, 3, got % 3, got / 8 % 6);
            }
        }
        // behind 1103527590 comes 2524885223 (below 0 as an int): 5758 is got; 719 is 5 modulo 6
        HauntSums x = Edge.town("times 40 30 4;times 40 30 5;clerk 0 3;");
        Edge.due("drift of 2", x.drift(1, 2, 0), 5 + 8 + 5 + 5);
        // he is where he was put till he is put elsewhere
        HauntSums y = Edge.town("times 40 30 4;times 40 30 5;clerk 0 3;clerk 0 1;clerk 0 2;");
        // CLERK 2 in 4; then CLERK 1 (5758 modulo 3) in 5 and CLERK 2 in 4 still
        Edge.due("drift of 2", y.drift(1, 2, 0), 6 + 8 + 4 + 7);
    }

    public static void main(String[] args) throws IOException {
        see();
        forget();
        kinds();
        second();
        look();
        lookNone();
        drift();
        driftBySeed();
        Edge.finish(25, 26, 27, 28, 29, 30);
    }
}
