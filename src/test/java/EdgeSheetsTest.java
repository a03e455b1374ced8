import java.io.IOException;

/** Promises 31 to 37, images, sheets: each sentence that names an edge, by a test of its own. */
public final class EdgeSheetsTest {
    private static final int BYTES = 0, SHORTS = 1, INTS = 2;

    private static void keep() {
        Edge.sentence(31, "IMAGE k (0, 1) is GHOSTS, CLERKS, NIGHT, what was SEEN: whether there was one (1, 0). BAD.");
        for (Edge.Start start : Edge.Start.values()) {
            Edge.bounds(start, "keep", 0, 1, (x, v) -> x.keep(v));
        }
        HauntSums x = new HauntSums();
        for (int k = 0; k < 2; k++) {
            Edge.due("keep of nothing", x.keep(k), 0);
            Edge.due("IMAGES", x.count(1), k + 1);
            Edge.due("keep again", x.keep(k), 1);
            Edge.due("IMAGES", x.count(1), k + 1);
        }
        Edge.due("back to nothing", x.back(1), 0);
        // the later one is in place of the one before, of this IMAGE alone
        HauntSums y = Edge.Start.ALL.make();
        y.keep(0);
        Edge.due("back(0)", y.back(0), 7);
        Edge.due("SEEN", y.count(0), 6);
        HauntSums z = Edge.Start.ALL.make();
        z.keep(1);
        Edge.due("back(0)", z.back(0), 0);
        Edge.due("SEEN", z.count(0), 0);
        Edge.refused(Edge.Start.ALL, "keep of what is kept", 1, w -> w.keep(1));
        HauntSums late = Edge.Start.LATE.make();
        late.keep(1);
        Edge.due("NIGHT kept", late.back(1), 999);
    }

    private static void back() {
        Edge.sentence(32, "All is as IMAGE k: NIGHT. BAD");
        Edge.bounds(Edge.Start.ALL, "back", 0, 1, (x, v) -> x.back(v));
        Edge.bounds(Edge.Start.LATE, "back", 0, 1, (x, v) -> x.back(v));
        Edge.refused(Edge.Start.ALL, "back to what is", 7, x -> x.back(1));
        Edge.refused(Edge.Start.LATE, "back to what is", 999, x -> x.back(0));
        // fewer and more GHOSTS, CLERKS, SEEN; the tape, sheets and faults are no part of it
        HauntSums x = new HauntSums();
        x.keep(0);
        String none = Edge.townShown(x);
        Edge.due("none were there", x.back(0), 0);
        HauntSums y = Edge.Start.ALL.make();
        String all = Edge.townShown(y);
        y.leave(0, 1, 1, 0);
        Edge.due("back(0)", y.back(0), 0);
        Edge.due("back(1)", y.back(1), 7);
        Edge.due("all is as it was", all.equals(Edge.townShown(y)) ? 1 : 0, 1);
        Edge.due("bytes", y.count(2), 160);
        Edge.due("CELLS", y.count(3), 40);
        Edge.due("torn", y.torn(), 2);
        x.leave(2, 99, 99, 5);
        x.nights(30);
        x.see(0, 20, 5);
        Edge.due("back(0)", x.back(0), 0);
        String again = Edge.townShown(x);
        Edge.due("nothing is there again", none.equals(again) ? 1 : 0, 1);
        Edge.due("GHOST 0", x.ghost(0, 0), Edge.BAD);
        Edge.sentence(32, "All is as IMAGE k");
        // each of two SEEN is another in the other IMAGE: by GHOST, by NIGHTS, by ROOM
        HauntSums seen = Edge.town("plus 6 7 0;plus 6 8 3;");
        seen.see(0, 1, 1);
        seen.see(1, 2, 1);
        seen.keep(0);
        seen.forget(0);
        seen.see(1, 1, 5);
        seen.see(0, 3, 4);
        seen.keep(1);
        Edge.due("not as SEEN", seen.kinds(0), 0);
        seen.back(0);
        // 13 goes 1 on, of 6 and 7 no other does so but 1 apart; 14 goes 2 on, of 6 and 8 no other but 2 apart
        Edge.due("as SEEN", seen.kinds(0), 3);
        Edge.due("as SEEN", seen.kinds(1), 3);
        seen.back(1);
        Edge.due("not as SEEN", seen.kinds(0), 0);
        seen.forget(1);
        Edge.due("as SEEN", seen.kinds(1), 3);
        Edge.due("as SEEN by any", seen.kinds(0), 15);
        Edge.sentence(32, "STATE: there is none.");
        Edge.refused(Edge.Start.NEW, "back(0)", Edge.STATE, z -> z.back(0));
        Edge.refused(Edge.Start.NEW, "back(1)", Edge.STATE, z -> z.back(1));
        Edge.refused(Edge.Start.SOME, "back(0)", Edge.STATE, z -> z.back(0));
        HauntSums gone = Edge.Start.ALL.make();
        gone.text();
        Edge.due("back(0) behind a text", gone.back(0), Edge.STATE);
        Edge.due("keep(1) behind a text", gone.keep(1), 0);
        Edge.due("back(0) behind a text", gone.back(0), Edge.STATE);
        Edge.due("back(1)", gone.back(1), 0);
        HauntSums stays = Edge.Start.ALL.make();
        stays.end(1);
        stays.text();
        Edge.due("back(1) behind a text that is refused", stays.back(1), 7);
    }

    private static void sheet() {
        Edge.sentence(33, "A SHEET is a new row of CELLS 0: 1. BAD: also n above 40");
        for (Edge.Start start : Edge.Start.values()) {
            for (int lane = BYTES; lane <= INTS; lane++) {
                int l = lane;
                Edge.bounds(start, "SHEET", 0, 3, (x, v) -> x.sheet(v, l, 40));
                for (int n : new int[] {41, 42, Edge.HIGH}) {
                    Edge.refused(start, "sheet of " + n, Edge.BAD, x -> x.sheet(0, l, n));
                }
            }
            Edge.bounds(start, "lane", 0, 2, (x, v) -> x.sheet(3, v, 0));
        }
        for (int lane = BYTES; lane <= INTS; lane++) {
            for (int n = 0; n <= 40; n++) {
                HauntSums x = Edge.town("clerk 5 1;clerk 3 1;");
                Edge.due("sheet of " + n, x.sheet(0, lane, n), 1);
                Edge.due("CELLS", x.count(3), n);
                Edge.due("all are 0", x.read(0, lane, 0, 20), n / 2);
                Edge.due("CLERK 0", x.clerk(0, 0), n < 2 ? 5 : 0);
                Edge.due("CLERK 1", x.clerk(1, 0), 3);
            }
        }
        Edge.sentence(33, "-10 - 4.");
        for (Edge.Start start : Edge.Start.values()) {
            for (int n : new int[] {-1, -2, -41, Edge.LOW}) {
                Edge.refused(start, "sheet of " + n, -14, x -> x.sheet(0, 1, n));
                Edge.refused(start, "sheet of " + n, -14, x -> x.sheet(3, 2, n));
                Edge.refused(start, "sheet of " + n + ", SHEET 4", Edge.BAD, x -> x.sheet(4, 2, n));
                Edge.refused(start, "sheet of " + n + ", lane 3", Edge.BAD, x -> x.sheet(0, 3, n));
            }
        }
    }

    private static void newRow() {
        Edge.sentence(33, "a new row of CELLS 0");
        for (int lane = BYTES; lane <= INTS; lane++) {
            HauntSums x = Edge.Start.ALL.make();
            // all of 9 (no ROOM), in each sheet; then a new row in one of them
            for (int k = 0; k < 4; k++) {
                x.sheet(k, lane, 4);
                Edge.layAll(x, k, 9, 9, 9, 9);
            }
            x.sheet(1, lane, 4);
            Edge.due("the new row", x.read(1, lane, 0, 2), 2);
            for (int k : new int[] {0, 2, 3}) {
                Edge.due("SHEET " + k + " stays", x.read(k, lane, 0, 2), -20);
            }
            x.sheet(0, lane, 2);
            x.sheet(0, lane, 4);
            Edge.due("longer again", x.read(0, lane, 0, 2), 2);
        }
    }

    private static void lay() {
        Edge.sentence(34, "BAD: k");
        for (Edge.Start start : Edge.Start.values()) {
            Edge.bounds(start, "SHEET", 0, 3, (x, v) -> x.lay(v, 0, 1));
            Edge.bounds(start, "SHEET, no such CELL", 0, 3, (x, v) -> x.lay(v, -1, 1));
        }
        Edge.sentence(34, "-10 less the FAULT: NULL, INDEX.");
        for (int i : new int[] {Edge.LOW, -1, 0, 39, 40, Edge.HIGH}) {
            Edge.refused(Edge.Start.NEW, "lay on nothing", -11, x -> x.lay(0, i, 1));
            Edge.refused(Edge.Start.SOME, "lay on nothing", -11, x -> x.lay(3, i, 1));
        }
        for (int i : new int[] {Edge.LOW, -1, 40, 41, Edge.HIGH}) {
            for (int k = 0; k < 4; k++) {
                int sheet = k;
                Edge.refused(Edge.Start.ALL, "lay at " + i, -12, x -> x.lay(sheet, i, 1));
            }
        }
        for (int n = 0; n <= 40; n++) {
            HauntSums x = new HauntSums();
            x.sheet(2, n % 3, n);
            Edge.due("the last of " + n, x.lay(2, n - 1, 1), n == 0 ? -12 : 1);
            Edge.due("behind the last of " + n, x.lay(2, n, 1), -12);
        }
    }

    /** What is laid is read as this number: as a CLERK where it may be one, as what is BAD else. */
    private static void laid(int lane, int v, int as) {
        HauntSums x = Edge.town("clerk 5 1;clerk 5 1;clerk 5 1;");
        x.sheet(1, lane, 2);
        x.lay(1, 1, 4);
        Edge.due("lay of " + v, x.lay(1, 0, v), 1);
        boolean clerk = as >= 0 && as <= 2;
        Edge.due("read of " + v + " in lane " + lane, x.read(1, lane, 0, 1), clerk ? 1 : -20);
        for (int c = 0; c < 3; c++) {
            Edge.due("CLERK " + c + " by " + v, x.clerk(c, 0), c == as ? 4 : 5);
        }
    }

    private static void lowestBits() {
        Edge.sentence(34, "CELL i of a SHEET becomes v (its lowest bits): 1.");
        for (int lane = BYTES; lane <= INTS; lane++) {
            int bits = 8 << lane;
            for (int v = -1; v <= 3; v++) {
                laid(lane, v, v);
                for (int above : new int[] {8, 15, 16, 31}) {
                    // what is above the lowest bits is cut off; what is left there makes it no CLERK
                    laid(lane, (1 << above) + v, above >= bits ? v : 99);
                }
            }
            laid(lane, 128, lane == BYTES ? -128 : 128);
            laid(lane, Edge.LOW, lane == INTS ? Edge.LOW : 0);
            laid(lane, Edge.HIGH, lane == INTS ? Edge.HIGH : -1);
        }
        HauntSums x = Edge.town("clerk 5 1;");
        x.sheet(0, BYTES, 2);
        x.lay(0, 1, 255);
        Edge.due("255 is -1 of a byte: no ROOM", x.read(0, BYTES, 0, 1), -20);
        x.lay(0, 1, 256 + 3);
        Edge.due("259 is 3 of a byte", x.read(0, BYTES, 0, 1), 1);
        Edge.due("ROOM", x.clerk(0, 0), 3);
    }

    private static void read() {
        Edge.sentence(35, "n (0 to 20) times a CLERK, a ROOM are read of a SHEET taken as of a lane");
        for (Edge.Start start : Edge.Start.values()) {
            Edge.bounds(start, "NUMBER", 0, 20, (x, v) -> x.read(1, INTS, 0, v));
        }
        HauntSums x = Edge.Start.ALL.make();
        Edge.due("20 times", x.read(0, BYTES, 0, 20), 20);
        Edge.due("torn", x.torn(), 0);
        Edge.due("NIGHT", x.rule(2), 27);
        Edge.due("CLERK 0", x.clerk(0, 0), 0);
        Edge.due("CLERK 1, the last", x.clerk(1, 0), 1);
        Edge.due("CLERK 2, the first", x.clerk(2, 0), 0);
        Edge.sentence(35, "BAD: k, lane, n");
        for (Edge.Start start : Edge.Start.values()) {
            for (int n : new int[] {0, 1, 20}) {
                Edge.bounds(start, "SHEET", 0, 3, (y, v) -> y.read(v, BYTES, 0, n));
                Edge.bounds(start, "lane", 0, 2, (y, v) -> y.read(0, v, 0, n));
                Edge.bounds(start, "lane, far off", 0, 2, (y, v) -> y.read(0, v, Edge.HIGH, n));
            }
        }
        Edge.sentence(35, "he is in that ROOM then, and a NIGHT goes behind each: how many came.");
        HauntSums y = Edge.town("times 40 30 2;over 1 2 4;clerk 0 3;clerk 0 1;");
        y.sheet(0, SHORTS, 6);
        Edge.layAll(y, 0, 0, 2, 1, 4, 0, 5);
        Edge.due("read", y.read(0, SHORTS, 0, 2), 2);
        // in the first NIGHT 3 STEPS of it; in the second 3 more, as he is there still, and the other RESTS
        Edge.due("DONE of 0", y.ghost(0, 4), 6);
        Edge.due("DONE of 1", y.ghost(1, 4), 1);
        Edge.due("NIGHT", y.rule(2), 2);
        Edge.due("read of none", y.read(0, SHORTS, 0, 0), 0);
        Edge.due("NIGHT", y.rule(2), 2);
        Edge.due("read of the third", y.read(0, SHORTS, 4, 1), 1);
        Edge.due("CLERK 0", y.clerk(0, 0), 5);
    }

    /** Of a SHEET of ALL: so many came, and this the machine found. */
    private static void torn(int k, int lane, int f, int n, int came, int fault) {
        HauntSums x = Edge.Start.ALL.make();
        String call = "read(" + k + ", " + lane + ", " + f + ", " + n + ")";
        Edge.due(call, x.read(k, lane, f, n), came);
        Edge.due("torn behind " + call, x.torn(), fault);
        Edge.due("NIGHT behind " + call, x.rule(2), 7 + came);
    }

    private static void machineRefuses() {
        Edge.sentence(35, "What the machine refuses: those that were whole ahead came (its FAULT is asked by torn()).");
        torn(0, BYTES, 38, 1, 1, 0);
        torn(0, BYTES, 38, 2, 1, 2);
        torn(0, BYTES, 39, 1, 0, 2);
        torn(0, BYTES, 40, 1, 0, 2);
        torn(0, BYTES, 2, 20, 19, 2);
        torn(0, BYTES, 0, 20, 20, 0);
        torn(0, BYTES, 37, 2, 1, 2);
        for (int f : new int[] {-1, -2, 41, Edge.LOW, Edge.LOW + 1, Edge.HIGH - 1, Edge.HIGH}) {
            torn(0, BYTES, f, 20, 0, 2);
            torn(0, BYTES, f, 1, 0, 2);
            torn(0, BYTES, f, 0, 0, 0);
            torn(0, SHORTS, f, 1, 0, 3);
        }
        for (int k = 0; k < 4; k++) {
            for (int lane = BYTES; lane <= INTS; lane++) {
                torn(k, lane, 2, 3, lane == k % 3 ? 3 : 0, lane == k % 3 ? 0 : 3);
            }
        }
        for (int lane = BYTES; lane <= INTS; lane++) {
            for (int f : new int[] {Edge.LOW, -1, 0, 40, Edge.HIGH}) {
                HauntSums x = Edge.Start.SOME.make();
                Edge.due("read of nothing", x.read(3, lane, f, 20), 0);
                Edge.due("torn", x.torn(), 1);
                Edge.due("NIGHT", x.rule(2), 3);
            }
            for (int n = 0; n <= 3; n++) {
                HauntSums x = Edge.Start.SOME.make();
                x.sheet(0, lane, n);
                Edge.due("read of " + n + " CELLS", x.read(0, lane, 0, 2), n / 2);
                Edge.due("torn", x.torn(), 2);
            }
        }
    }

    private static HauntSums twenty(int at, int clerk, int room) {
        HauntSums x = Edge.town("times 40 30 0;clerk 5 1;clerk 4 2;");
        x.sheet(3, INTS, 40);
        x.lay(3, 2 * at, clerk);
        x.lay(3, 2 * at + 1, room);
        return x;
    }

    private static void whole() {
        Edge.sentence(35, "-20 less i: the i-th, whole, is BAD, or NIGHT is 999: then none came; the first met.");
        int[][] bad = {{-1, 0}, {2, 0}, {0, -1}, {0, 6}, {Edge.LOW, 0}, {Edge.HIGH, 0}, {0, Edge.LOW}, {0, Edge.HIGH}};
        for (int[] b : bad) {
            for (int at : new int[] {0, 1, 18, 19}) {
                HauntSums x = twenty(at, b[0], b[1]);
                HauntSums y = twenty(at, b[0], b[1]);
                Edge.due("the " + at + "-th is BAD", x.read(3, INTS, 0, 20), -20 - at);
                Edge.due("none came", Edge.townShown(x).equals(Edge.townShown(y)) ? 1 : 0, 1);
                Edge.due("torn", x.torn(), 0);
                Edge.due("those ahead", x.read(3, INTS, 0, at), at);
                Edge.due("by its own place", x.read(3, INTS, 2 * at, 1), -20);
            }
        }
        for (int[] taken : new int[][] {{0, 0}, {0, 5}, {1, 0}, {1, 5}}) {
            HauntSums x = twenty(19, taken[0], taken[1]);
            Edge.due("the last that is taken", x.read(3, INTS, 0, 20), 20);
            Edge.due("ROOM", x.clerk(taken[0], 0), taken[1]);
        }
        // BAD is met ahead of what the machine refuses, and this ahead of what is not whole
        HauntSums x = twenty(19, 0, 6);
        Edge.due("BAD first", x.read(3, INTS, 38, 2), -20);
        Edge.due("torn", x.torn(), 0);
        HauntSums y = twenty(19, 0, 9);
        Edge.due("not whole", y.read(3, INTS, 39, 1), 0);
        Edge.due("torn", y.torn(), 2);
        Edge.due("another lane", y.read(3, SHORTS, 38, 1), 0);
        Edge.due("torn", y.torn(), 3);
        HauntSums none = new HauntSums();
        none.sheet(0, BYTES, 2);
        Edge.due("there are no CLERKS", none.read(0, BYTES, 0, 1), -20);
        Edge.due("of none", none.read(0, BYTES, 0, 0), 0);
    }

    private static void lateNights() {
        Edge.sentence(35, "or NIGHT is 999: then none came");
        for (int n = 1; n <= 2; n++) {
            int times = n;
            Edge.refused(Edge.Start.LATE, "read at NIGHT 999", -20, x -> x.read(1, INTS, 0, times));
        }
        for (int night = 979; night <= 999; night++) {
            HauntSums x = twenty(0, 1, 3);
            for (int i = 0; i < night / 30; i++) {
                x.nights(30);
            }
            x.nights(night % 30);
            int most = 999 - night;
            Edge.due("read of 20 at " + night, x.read(3, INTS, 0, 20), most >= 20 ? 20 : -20 - most);
            Edge.due("NIGHT", x.rule(2), most >= 20 ? 999 : night);
            if (most < 20) {
                Edge.due("CLERK 1", x.clerk(1, 0), 4);
                Edge.due("as many as may be", x.read(3, INTS, 0, most), most);
                Edge.due("NIGHT", x.rule(2), 999);
            }
        }
        HauntSums y = Edge.Start.LATE.make();
        Edge.due("not whole at 999", y.read(1, INTS, 3, 1), 0);
        Edge.due("torn", y.torn(), 2);
        Edge.due("another lane at 999", y.read(1, BYTES, 0, 1), 0);
        Edge.due("torn", y.torn(), 3);
        Edge.due("nothing at 999", y.read(0, BYTES, 0, 1), 0);
        Edge.due("torn", y.torn(), 1);
        Edge.due("none at 999", y.read(1, INTS, 0, 0), 0);
        Edge.due("torn", y.torn(), 0);
    }

    private static void tornStays() {
        Edge.sentence(36, "The FAULT of the latest read() that came to an end; 0.");
        Edge.due("torn() ahead of a read", new HauntSums().torn(), 0);
        for (Edge.Start start : Edge.Start.values()) {
            Edge.changesNothing(start, "torn()", x -> x.torn());
        }
        int[][] reads = {{3, INTS}, {0, SHORTS}, {0, BYTES}};
        int[] places = {0, 6, 0};
        for (int i = 0; i < 3; i++) {
            HauntSums x = Edge.Start.SOME.make();
            x.read(reads[i][0], reads[i][1], places[i], 1);
            Edge.due("torn", x.torn(), i + 1);
            Edge.due("a read that is BAD", x.read(4, 0, 0, 1), Edge.BAD);
            Edge.due("torn stays", x.torn(), i + 1);
            Edge.due("a read that is whole", x.read(2, BYTES, 0, 1), 1);
            Edge.due("torn", x.torn(), 0);
            x.read(reads[i][0], reads[i][1], places[i], 1);
            x.lay(2, 0, 7);
            Edge.due("a read of one that is BAD", x.read(2, BYTES, 0, 1), -20);
            Edge.due("torn stays", x.torn(), i + 1);
            x.sheet(0, 1, -1);
            x.lay(3, 0, 0);
            x.text();
            x.nights(1);
            x.keep(0);
            x.back(0);
            Edge.due("torn stays behind other calls", x.torn(), i + 1);
            Edge.due("read of none", x.read(0, SHORTS, 0, 0), 0);
            Edge.due("torn", x.torn(), 0);
        }
    }

    private static void count() {
        Edge.sentence(37, "How many: 0 SEEN, 1 IMAGES, 2 bytes on THE TAPE, 3 CELLS of SHEET 0 (NONE: nothing), 4 SKILL of all CLERKS. "
            + "BAD.");
        for (Edge.Start start : Edge.Start.values()) {
            Edge.bounds(start, "count", 0, 4, (x, v) -> x.count(v));
            for (int what = 0; what <= 4; what++) {
                int w = what;
                Edge.changesNothing(start, "count(" + what + ")", x -> x.count(w));
            }
        }
        int[][] due = {{0, 0, 0, Edge.NONE, 0}, {2, 1, 31, 6, 3}, {6, 2, 160, 40, 6}, {1, 2, 0, Edge.NONE, 1}};
        for (int i = 0; i < 4; i++) {
            HauntSums x = Edge.Start.values()[i].make();
            for (int what = 0; what <= 4; what++) {
                Edge.due("count(" + what + ") of " + Edge.Start.values()[i], x.count(what), due[i][what]);
            }
        }
        HauntSums y = new HauntSums();
        y.sheet(1, 0, 40);
        y.sheet(2, 1, 40);
        y.sheet(3, 2, 40);
        Edge.due("SHEET 0 is nothing", y.count(3), Edge.NONE);
        y.sheet(0, 2, 0);
        Edge.due("SHEET 0 has no CELLS", y.count(3), 0);
        HauntSums z = Edge.town("clerk 0 3;clerk 0 3;clerk 0 3;");
        Edge.due("the most SKILL", z.count(4), 9);
        z.post(2, 1, 1);
        Edge.due("SKILL of all", z.count(4), 7);
    }

    public static void main(String[] args) throws IOException {
        keep();
        back();
        sheet();
        newRow();
        lay();
        lowestBits();
        read();
        machineRefuses();
        whole();
        lateNights();
        tornStays();
        count();
        Edge.finish(31, 32, 33, 34, 35, 36, 37);
    }
}
