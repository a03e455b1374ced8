import java.io.IOException;

/** Promises 18 to 24, what is best, clerks that are ill: each sentence that names an edge, by a test of its own. */
public final class EdgeBestTest {
    /** Two that go 1 room a night: 8 STEPS and 2, by a clerk of SKILL 1 every sixth night; 60 till the second RESTS. */
    private static final String SIXTY = "times 49 25 1;plus 6 7 1;clerk 0 1;";

    private static void best() {
        Edge.sentence(18, "ROOMS of CLERKS by which HARM of n NIGHTS (0 to 20) is least");
        for (Edge.Start start : Edge.Start.values()) {
            Edge.bounds(start, "NIGHTS", 0, 20, (x, v) -> x.best(v, 0));
            Edge.changesNothing(start, "best(20, 0)", x -> x.best(20, 0));
            Edge.refused(start, "best(0, 0)", 0, x -> x.best(0, 0));
        }
        Edge.changesNothing(Edge.Start.ALL, "best(20, 12)", x -> x.best(20, 12));
        for (int room = 0; room <= 5; room++) {
            HauntSums x = Edge.town("over 1 2 0;clerk 2 1;");
            x.alter(0, 3, room);
            Edge.due("HARM", x.best(20, 0), 0);
            Edge.due("ROOM of the CLERK", x.best(20, 10), room);
        }
        // 2425 (8 STEPS, 1 on) is done 3 STEPS a time: from ROOM 5 on, in NIGHTS 1, 7, 13, or later ones
        HauntSums y = Edge.town("times 97 25 5;clerk 0 3;");
        Edge.due("HARM of 20", y.best(20, 0), 6 * 5 + 6 * 2);
        Edge.due("ROOM", y.best(20, 10), 5);
        // none there to be met: HARM as it is
        HauntSums z = Edge.town("times 97 25 5;");
        Edge.due("HARM with no CLERKS", z.best(20, 0), 160);
        Edge.sentence(18, "of several the first by CLERKS, ROOMS by number");
        HauntSums all = Edge.Start.ALL.make();
        for (int c = 0; c < 3; c++) {
            Edge.due("all ROOMS do alike in no NIGHTS", all.best(0, 10 + c), 0);
        }
        HauntSums two = Edge.town("over 1 2 5;over 1 2 1;clerk 3 1;clerk 3 1;clerk 3 1;");
        // 0 1 5 is ahead of 1 0 5, 1 5 0 and all others
        Edge.due("HARM of 1", two.best(1, 0), 0);
        Edge.due("CLERK 0", two.best(1, 10), 0);
        Edge.due("CLERK 1", two.best(1, 11), 1);
        Edge.due("CLERK 2", two.best(1, 12), 5);
        HauntSums last = Edge.town("times 99 99 5;clerk 0 3;clerk 0 3;clerk 0 2;");
        Edge.due("all in the last ROOM: HARM", last.best(1, 0), 0);
        for (int c = 0; c < 3; c++) {
            Edge.due("all in the last ROOM", last.best(1, 10 + c), 5);
        }
    }

    private static void bestWhat() {
        Edge.sentence(18, "that HARM (what 0); 10 and c: the ROOM of a CLERK. BAD.");
        Edge.bounds(Edge.Start.ALL, "CLERK", 10, 12, (x, v) -> x.best(1, v));
        Edge.bounds(Edge.Start.SOME, "CLERK", 10, 11, (x, v) -> x.best(20, v));
        Edge.bounds(Edge.Start.LATE, "CLERK", 10, 10, (x, v) -> x.best(20, v));
        for (Edge.Start start : Edge.Start.values()) {
            for (int what : new int[] {-1, 1, 2, 9, 13, Edge.LOW + 9, Edge.LOW + 10, Edge.LOW + 11}) {
                Edge.refused(start, "best what " + what, Edge.BAD, x -> x.best(1, what));
            }
        }
        Edge.refused(Edge.Start.NEW, "best what 10, no CLERKS", Edge.BAD, x -> x.best(0, 10));
        Edge.refused(Edge.Start.NEW, "best of nothing", 0, x -> x.best(20, 0));
    }

    private static void learn() {
        Edge.sentence(19, "so that HARM of n NIGHTS (0 to 20) is least, less than as it is, of several the first (what 0), that "
            + "HARM (1). BAD");
        for (Edge.Start start : Edge.Start.values()) {
            for (int what = 0; what <= 1; what++) {
                int w = what;
                Edge.bounds(start, "NIGHTS", 0, 20, (x, v) -> x.learn(v, w));
                Edge.changesNothing(start, "learn(20, " + what + ")", x -> x.learn(20, w));
                Edge.refused(start, "learn of no NIGHTS", Edge.NONE, x -> x.learn(0, w));
            }
            Edge.bounds(start, "what", 0, 1, (x, v) -> x.learn(20, v));
        }
        // each in a ROOM of his own with one that stays: 1200 has 8 STEPS
        String ghosts = "times 40 30 0;times 40 30 1;times 40 30 2;";
        HauntSums x = Edge.town(ghosts + "clerk 0 1;clerk 1 1;clerk 2 1;");
        Edge.due("of several the first", x.learn(1, 0), 0);
        Edge.due("HARM", x.learn(1, 1), 20);
        x.post(0, 0, 5);
        Edge.due("not he who does nothing", x.learn(1, 0), 1);
        x.alter(1, 4, 7);
        Edge.due("not he who does it anyway", x.learn(1, 0), 2);
        Edge.due("HARM", x.learn(1, 1), 8 + 0 + 6);
        HauntSums y = Edge.town(ghosts + "clerk 0 1;clerk 1 2;clerk 2 1;done 0 5;done 1 2;done 2 2;");
        // LEFT is 2 1 0, 4 2 0, 5 4 3; it would be 1 0 0, or 3 0 0, or 4 2 0
        Edge.due("the one by whom HARM is least", y.learn(3, 0), 2);
        Edge.due("HARM", y.learn(3, 1), 3 + 6 + 6);
    }

    private static void learnNone() {
        Edge.sentence(19, "The CLERK whose SKILL is to be 1 more (SKILL below 3 alone)");
        String ghost = "times 40 30 0;";
        for (int skill = 1; skill <= 3; skill++) {
            HauntSums x = Edge.town(ghost + "clerk 0 1;");
            x.post(0, 1, skill);
            Edge.due("SKILL " + skill, x.learn(1, 0), skill < 3 ? 0 : Edge.NONE);
            Edge.due("SKILL " + skill, x.learn(1, 1), skill < 3 ? 8 - skill - 1 : Edge.NONE);
        }
        HauntSums all = Edge.town("times 40 30 0;times 40 30 1;clerk 0 3;clerk 1 2;clerk 1 3;");
        Edge.due("one below 3", all.learn(1, 0), 1);
        all.post(1, 1, 3);
        Edge.due("none below 3", all.learn(1, 0), Edge.NONE);
        Edge.sentence(19, "NONE: none.");
        Edge.refused(Edge.Start.NEW, "no CLERKS", Edge.NONE, x -> x.learn(20, 0));
        Edge.refused(Edge.Start.NEW, "no CLERKS", Edge.NONE, x -> x.learn(20, 1));
        Edge.refused(Edge.Start.LATE, "no HARM less", Edge.NONE, x -> x.learn(20, 0));
        Edge.refused(Edge.Start.LATE, "no HARM less", Edge.NONE, x -> x.learn(20, 1));
        // what he meets in the 20th NIGHT counts, what he would meet in the 21st does not
        HauntSums late = Edge.town("times 97 25 5;clerk 0 1;done 0 4;");
        // 2425, 1 on: in ROOM 0 in NIGHTS 2, 8, 14, 20, and 1 STEP each: all done in the 20th; by SKILL 2 in the 8th
        Edge.due("learn(1, 0)", late.learn(1, 0), Edge.NONE);
        Edge.due("learn(2, 0)", late.learn(2, 0), 0);
        Edge.due("learn(2, 1)", late.learn(2, 1), 4 + 2);
        Edge.due("learn(20, 1)", late.learn(20, 1), 4 + 2 * 6);
    }

    private static void quiet() {
        Edge.sentence(20, "The ROOM with least HARM in n NIGHTS (0 to 60), of several the first (what 0), that HARM (1). BAD.");
        for (Edge.Start start : Edge.Start.values()) {
            for (int what = 0; what <= 1; what++) {
                int w = what;
                Edge.bounds(start, "NIGHTS", 0, 60, (x, v) -> x.quiet(v, w));
                Edge.changesNothing(start, "quiet(60, " + what + ")", x -> x.quiet(60, w));
                Edge.refused(start, "quiet of no NIGHTS", 0, x -> x.quiet(0, w));
            }
            Edge.bounds(start, "what", 0, 1, (x, v) -> x.quiet(60, v));
        }
        // 2425 goes 1 room a night
        HauntSums x = Edge.town("times 97 25 0;");
        for (int n = 0; n <= 5; n++) {
            Edge.due("the first it was not in, in " + n, x.quiet(n, 0), n);
            Edge.due("HARM in " + n, x.quiet(n, 1), 0);
        }
        Edge.due("all alike", x.quiet(6, 0), 0);
        Edge.due("all alike", x.quiet(6, 1), 8);
        Edge.due("the first but ROOM 0", x.quiet(7, 0), 1);
        Edge.due("all alike in 60", x.quiet(60, 0), 0);
        Edge.due("all alike in 60", x.quiet(60, 1), 80);
        Edge.due("ROOM 5 is last in 59", x.quiet(59, 0), 5);
        Edge.due("ROOM 5 is last in 59", x.quiet(59, 1), 72);
        HauntSums y = Edge.town("over 1 2 0;over 1 2 1;over 1 2 2;over 1 2 3;");
        Edge.due("one is in all but two", y.quiet(60, 0), 4);
    }

    private static void better() {
        Edge.sentence(21, "The B (1 to 99) of a GHOST by which HARM of n NIGHTS (0 to 20) is least, of several the least (what 0), "
            + "that HARM (1). BAD.");
        for (int what = 0; what <= 1; what++) {
            int w = what;
            Edge.bounds(Edge.Start.SOME, "NIGHTS", 0, 20, (x, v) -> x.better(0, v, w));
            Edge.bounds(Edge.Start.ALL, "NIGHTS", 0, 20, (x, v) -> x.better(3, v, w));
            Edge.bounds(Edge.Start.SOME, "GHOST", 0, 1, (x, v) -> x.better(v, 20, w));
            Edge.bounds(Edge.Start.ALL, "GHOST", 0, 3, (x, v) -> x.better(v, 0, w));
            Edge.nothingThere(Edge.Start.NEW, "GHOST", (x, v) -> x.better(v, 0, w));
            for (int g = 0; g < 4; g++) {
                int which = g;
                Edge.changesNothing(Edge.Start.ALL, "better", x -> x.better(which, 20, w));
                Edge.refused(Edge.Start.ALL, "better of no NIGHTS", 1 - w, x -> x.better(which, 0, w));
            }
        }
        Edge.bounds(Edge.Start.SOME, "what", 0, 1, (x, v) -> x.better(0, 1, v));
        // apart by 4 alone it has 1 figure and comes from ROOM 3 to ROOM 1
        HauntSums x = Edge.town("less 99 96 3;clerk 1 2;");
        Edge.due("the B", x.better(0, 20, 0), 95);
        Edge.due("HARM", x.better(0, 20, 1), 2);
        Edge.due("of several the least: 90 to 99 are apart by 1 figure", x.better(0, 1, 0), 90);
        // 9 and 1 is 10: 2 STEPS as all up to 90, and no B below it
        HauntSums least = Edge.town("plus 9 50 3;");
        Edge.due("the least B there is", least.better(0, 20, 0), 1);
        Edge.due("HARM", least.better(0, 20, 1), 40);
        // 9 times 1 has 1 figure, 9 times 2 has 2
        HauntSums first = Edge.town("times 9 50 3;");
        Edge.due("by 1 alone", first.better(0, 20, 0), 1);
        Edge.due("HARM", first.better(0, 20, 1), 40);
        // 6 and 2 comes to him behind the first NIGHT, 6 and 1 behind the second, 6 and 3 never
        HauntSums second = Edge.town("plus 6 50 0;clerk 2 1;");
        Edge.due("by 2 alone", second.better(0, 20, 0), 2);
        Edge.due("HARM", second.better(0, 20, 1), 1);
        HauntSums y = Edge.town("plus 1 50 3;done 0 20;");
        Edge.due("all alike", y.better(0, 20, 0), 1);
        Edge.due("all alike", y.better(0, 20, 1), 0);
        // the 20th NIGHT counts
        HauntSums z = Edge.town("plus 1 1 3;times 40 30 1;");
        Edge.due("HARM of 20", z.better(0, 20, 1), 20 * 9);
    }

    private static void from() {
        Edge.sentence(22, "The ROOM from which on a GHOST RESTS soonest (in 60 NIGHTS), of several the first (what 0), behind how "
            + "many NIGHTS (1). BAD");
        for (int what = 0; what <= 1; what++) {
            int w = what;
            Edge.bounds(Edge.Start.SOME, "GHOST", 0, 1, (x, v) -> x.from(v, w));
            Edge.bounds(Edge.Start.ALL, "GHOST", 0, 3, (x, v) -> x.from(v, w));
            Edge.nothingThere(Edge.Start.NEW, "GHOST", (x, v) -> x.from(v, w));
            for (int g = 0; g < 4; g++) {
                int which = g;
                Edge.changesNothing(Edge.Start.ALL, "from", x -> x.from(which, w));
            }
        }
        Edge.bounds(Edge.Start.SOME, "what", 0, 1, (x, v) -> x.from(0, v));
        for (int room = 0; room <= 5; room++) {
            HauntSums x = Edge.town("over 1 2 3;clerk 0 1;");
            x.post(0, 0, room);
            Edge.due("where he is", x.from(0, 0), room);
            Edge.due("where he is", x.from(0, 1), 1);
        }
        HauntSums y = Edge.town("over 1 2 3;clerk 5 1;clerk 2 1;clerk 4 3;");
        Edge.due("of several the first", y.from(0, 0), 2);
        y.alter(0, 4, 1);
        Edge.due("it RESTS: from all, the first", y.from(0, 0), 0);
        Edge.due("it RESTS", y.from(0, 1), 0);
    }

    private static void fromNone() {
        Edge.sentence(22, "NONE: from none.");
        HauntSums none = Edge.town("plus 1 1 4;");
        Edge.due("no CLERKS", none.from(0, 0), Edge.NONE);
        Edge.due("no CLERKS", none.from(0, 1), Edge.NONE);
        // 8 and 8 STEPS stay with him ahead of it, and 1: 17 NIGHTS; then 8 STEPS, one each sixth NIGHT: 18 to 60 at best
        HauntSums x = Edge.town("times 40 30 2;times 40 30 2;plus 1 5 2;times 49 25 0;clerk 2 1;");
        Edge.due("the last that counts: ROOM", x.from(3, 0), 3);
        Edge.due("the last that counts", x.from(3, 1), 60);
        // 12 stays too, with 2 STEPS: 18 NIGHTS
        x.alter(2, 1, 7);
        Edge.due("the first that is too late", x.from(3, 0), Edge.NONE);
        Edge.due("the first that is too late", x.from(3, 1), Edge.NONE);
    }

    private static void luck() {
        Edge.sentence(23, "Each CLERK is ill by v out of ten (0 to 10), by himself (he does nothing in all n NIGHTS, 0 to 60): that "
            + "a GHOST RESTS then: 0, 1. BAD.");
        for (int what = 0; what <= 1; what++) {
            int w = what;
            Edge.bounds(Edge.Start.SOME, "v", 0, 10, (x, v) -> x.luck(v, 1, 60, w));
            Edge.bounds(Edge.Start.ALL, "v", 0, 10, (x, v) -> x.luck(v, 3, 0, w));
            Edge.bounds(Edge.Start.SOME, "NIGHTS", 0, 60, (x, v) -> x.luck(3, 1, v, w));
            Edge.bounds(Edge.Start.SOME, "GHOST", 0, 1, (x, v) -> x.luck(3, v, 60, w));
            Edge.bounds(Edge.Start.ALL, "GHOST", 0, 3, (x, v) -> x.luck(10, v, 60, w));
            Edge.nothingThere(Edge.Start.NEW, "GHOST", (x, v) -> x.luck(0, v, 0, w));
            Edge.changesNothing(Edge.Start.ALL, "luck", x -> x.luck(7, 0, 60, w));
        }
        Edge.bounds(Edge.Start.SOME, "what", 0, 1, (x, v) -> x.luck(3, 0, 1, v));
        HauntSums x = Edge.town(SIXTY);
        Edge.due("behind 59", x.luck(0, 1, 59, 0), 0);
        Edge.due("behind 59", x.luck(0, 1, 59, 1), 1);
        Edge.due("behind 60", x.luck(3, 1, 60, 0), 7);
        Edge.due("behind 60", x.luck(3, 1, 60, 1), 10);
        Edge.due("all are ill", x.luck(10, 1, 60, 0), 0);
        Edge.due("none is ill", x.luck(0, 1, 60, 0), 1);
        Edge.due("none is ill", x.luck(0, 1, 60, 1), 1);
        HauntSums y = Edge.town("over 1 2 3;over 1 2 4;clerk 3 1;clerk 3 1;clerk 4 1;done 1 1;");
        // by himself: 1 less 3/10 times 3/10
        Edge.due("one of two", y.luck(3, 0, 1, 0), 91);
        Edge.due("one of two", y.luck(3, 0, 1, 1), 100);
        for (int v = 0; v <= 10; v++) {
            Edge.due("it RESTS already", y.luck(v, 1, 0, 0), 1);
            Edge.due("it RESTS already", y.luck(v, 1, 0, 1), 1);
            Edge.due("no NIGHTS", y.luck(v, 0, 0, 0), 0);
            Edge.due("no NIGHTS", y.luck(v, 0, 0, 1), 1);
        }
        // ill in all NIGHTS or in none: no more than one half, whatever the NIGHTS
        HauntSums z = Edge.town("over 1 2 3;clerk 3 1;");
        Edge.due("in all NIGHTS", z.luck(5, 0, 60, 0), 1);
        Edge.due("in all NIGHTS", z.luck(5, 0, 60, 1), 2);
        HauntSums none = Edge.town("over 1 2 3;");
        Edge.due("no CLERKS", none.luck(0, 0, 60, 0), 0);
        Edge.due("no CLERKS", none.luck(0, 0, 60, 1), 1);
    }

    private static void mean() {
        Edge.sentence(24, "Likewise, the mean of HARM of n NIGHTS: 0, 1. BAD.");
        for (Edge.Start start : Edge.Start.values()) {
            for (int what = 0; what <= 1; what++) {
                int w = what;
                Edge.bounds(start, "v", 0, 10, (x, v) -> x.mean(v, 60, w));
                Edge.bounds(start, "NIGHTS", 0, 60, (x, v) -> x.mean(3, v, w));
                Edge.changesNothing(start, "mean", x -> x.mean(7, 60, w));
                Edge.refused(start, "mean of no NIGHTS", w, x -> x.mean(7, 0, w));
            }
            Edge.bounds(start, "what", 0, 1, (x, v) -> x.mean(3, 1, v));
            HauntSums x = start.make();
            Edge.due("none is ill", x.mean(0, 60, 0), x.runs(60, 0));
            Edge.due("none is ill", x.mean(0, 60, 1), 1);
        }
        HauntSums x = Edge.town("times 99 99 0;times 99 99 0;times 99 99 1;times 99 99 2;clerk 5 3;clerk 5 3;clerk 5 3;");
        Edge.due("all are ill: the most HARM", x.mean(10, 60, 0), 4 * 8 * 60);
        Edge.due("all are ill", x.mean(10, 60, 1), 1);
        HauntSums y = Edge.town("over 1 2 3;clerk 3 1;clerk 3 1;clerk 3 1;");
        // 60 in 1 of 1000
        Edge.due("in 1 of 1000", y.mean(1, 60, 0), 3);
        Edge.due("in 1 of 1000", y.mean(1, 60, 1), 50);
        Edge.due("in 729 of 1000", y.mean(9, 1, 0), 729);
        Edge.due("in 729 of 1000", y.mean(9, 1, 1), 1000);
    }

    public static void main(String[] args) throws IOException {
        best();
        bestWhat();
        learn();
        learnNone();
        quiet();
        better();
        from();
        fromNone();
        luck();
        mean();
        Edge.finish(18, 19, 20, 21, 22, 23, 24);
    }
}
