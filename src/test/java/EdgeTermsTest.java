import java.io.IOException;

/** Each sentence of the document's Terms that names an edge, by a test of its own. */
public final class EdgeTermsTest {
    private static final String[] SUMS = {"plus", "less", "times", "over"};
    private static final String FOUR = "plus 1 1 0;less 1 1 0;times 1 1 0;over 1 1 0;";
    private static final String THREE = "clerk 0 1;clerk 0 1;clerk 0 1;";

    private static void answers() {
        Edge.sentence(Edge.TERMS, "BAD -1 (a number is not as told, there is no such GHOST, CLERK, IMAGE, SHEET)");
        Edge.due("BAD", HauntSums.BAD, -1);
        Edge.nothingThere(Edge.Start.NEW, "ghost", (x, v) -> x.ghost(v, 0));
        Edge.nothingThere(Edge.Start.NEW, "clerk", (x, v) -> x.clerk(v, 0));
        Edge.bounds(Edge.Start.ALL, "back", 0, 1, (x, v) -> x.back(v));
        Edge.bounds(Edge.Start.ALL, "lay", 0, 3, (x, v) -> x.lay(v, 0, 0));
        Edge.sentence(Edge.TERMS, "STATE -2 (as told), FULL -3, NONE -4 (there is none)");
        Edge.due("STATE", HauntSums.STATE, -2);
        Edge.due("FULL", HauntSums.FULL, -3);
        Edge.due("NONE", HauntSums.NONE, -4);
    }

    private static void theFirstThatFits() {
        Edge.sentence(Edge.TERMS, "the first that fits");
        Edge.refused(Edge.Start.ALL, "feed(128), FULL too", Edge.BAD, x -> x.feed(128));
        Edge.refused(Edge.Start.ALL, "leave of KIND 4, FULL too", Edge.BAD, x -> x.leave(4, 1, 1, 0));
        Edge.refused(Edge.Start.ALL, "leave in ROOM 6, FULL too", Edge.BAD, x -> x.leave(0, 1, 1, 6));
        Edge.refused(Edge.Start.ALL, "see of GHOST 4, FULL too", Edge.BAD, x -> x.see(4, 0, 0));
        Edge.refused(Edge.Start.ALL, "see in ROOM 6, FULL too", Edge.BAD, x -> x.see(0, 0, 6));
        Edge.refused(Edge.Start.LATE, "nights(31), FULL too", Edge.BAD, x -> x.nights(31));
        Edge.refused(Edge.Start.NEW, "back(2), STATE too", Edge.BAD, x -> x.back(2));
        Edge.refused(Edge.Start.NEW, "drift of 0 NIGHTS, STATE too", Edge.BAD, x -> x.drift(1, 0, 0));
        Edge.refused(Edge.Start.NEW, "drift of 61 NIGHTS, STATE too", Edge.BAD, x -> x.drift(1, 61, 0));
        Edge.refused(Edge.Start.NEW, "drift what 2, STATE too", Edge.BAD, x -> x.drift(1, 1, 2));
        Edge.refused(Edge.Start.LATE, "runs what 4, NONE too", Edge.BAD, x -> x.runs(1, 4));
        Edge.refused(Edge.Start.NEW, "learn what 2, NONE too", Edge.BAD, x -> x.learn(0, 2));
        Edge.refused(Edge.Start.NEW, "learn of 21 NIGHTS, NONE too", Edge.BAD, x -> x.learn(21, 0));
        Edge.refused(Edge.Start.NEW, "count(5), NONE too", Edge.BAD, x -> x.count(5));
    }

    private static void fractions() {
        Edge.sentence(Edge.TERMS, "Fractions are in lowest terms, the denominator above 0 (0 is 0 by 1)");
        // over 1 2 stays and is 1 STEP: it rests if the clerk is well
        for (int v = 0; v <= 10; v++) {
            int[] above = {1, 9, 4, 7, 3, 1, 2, 3, 1, 1, 0};
            int[] below = {1, 10, 5, 10, 5, 2, 5, 10, 5, 10, 1};
            HauntSums x = Edge.town("over 1 2 3;clerk 3 1;");
            Edge.due("luck by " + v, x.luck(v, 0, 1, 0), above[v]);
            Edge.due("luck by " + v, x.luck(v, 0, 1, 1), below[v]);
            Edge.due("mean by " + v, x.mean(10 - v, 1, 0), above[v]);
            Edge.due("mean by " + v, x.mean(10 - v, 1, 1), below[v]);
        }
        HauntSums y = Edge.town("over 1 2 3;clerk 3 1;clerk 3 1;clerk 3 1;");
        // all three ill: 27 of 1000, 1 of 125, 8 of 125
        Edge.due("mean by 3 of three", y.mean(3, 1, 0), 27);
        Edge.due("mean by 3 of three", y.mean(3, 1, 1), 1000);
        Edge.due("mean by 2 of three", y.mean(2, 1, 0), 1);
        Edge.due("mean by 2 of three", y.mean(2, 1, 1), 125);
        Edge.due("luck by 4 of three", y.luck(4, 0, 1, 0), 117);
        Edge.due("luck by 4 of three", y.luck(4, 0, 1, 1), 125);
        Edge.due("mean of no NIGHTS", y.mean(3, 0, 0), 0);
        Edge.due("mean of no NIGHTS", y.mean(3, 0, 1), 1);
    }

    private static void rooms() {
        Edge.sentence(Edge.TERMS, "ROOMS 0 to 5, in a ring");
        // plus 6 and B goes B modulo 6 rooms on
        for (int room = 0; room <= 5; room++) {
            for (int b = 1; b <= 7; b++) {
                HauntSums x = new HauntSums();
                x.leave(0, 6, b, room);
                Edge.due("ahead from " + room + " by " + b, x.ahead(0, 1, 0), (room + b) % 6);
                x.nights(1);
                Edge.due("ROOM from " + room + " by " + b, x.ghost(0, 3), (room + b) % 6);
            }
        }
        Edge.bounds(Edge.Start.SOME, "ROOM of a GHOST", 0, 5, (x, v) -> x.alter(1, 3, v));
        Edge.bounds(Edge.Start.SOME, "ROOM of a CLERK", 0, 5, (x, v) -> x.post(1, 0, v));
        Edge.bounds(Edge.Start.SOME, "ROOM of harm", 0, 5, (x, v) -> x.harm(v, 1));
    }

    private static void howManyThere() {
        Edge.sentence(Edge.TERMS, "GHOSTS 0 on (4 at most, by order)");
        HauntSums x = new HauntSums();
        for (int g = 0; g < 4; g++) {
            Edge.due("GHOST of " + g, x.ghost(g, 1), Edge.BAD);
            Edge.due("leave", x.leave(g, g + 1, 1, 0), g);
            Edge.due("A of " + g, x.ghost(g, 1), g + 1);
        }
        Edge.refused(Edge.Start.ALL, "leave", Edge.FULL, y -> y.leave(0, 1, 1, 0));
        Edge.textTaken(FOUR, 4);
        Edge.sentence(Edge.TERMS, "CLERKS 0 on (3 at most, by order)");
        HauntSums z = Edge.town("clerk 4 3;clerk 5 2;clerk 3 1;");
        for (int c = 0; c < 3; c++) {
            Edge.due("SKILL of " + c, z.clerk(c, 1), 3 - c);
        }
        Edge.due("CLERK 3", z.clerk(3, 1), Edge.BAD);
    }

    private static void numbersOfEach() {
        Edge.sentence(Edge.TERMS, "each of a KIND (0 plus, 1 less, 2 times, 3 over), of two numbers A, B (1 to 99), in a ROOM");
        Edge.bounds(Edge.Start.SOME, "KIND", 0, 3, (x, v) -> x.alter(0, 0, v));
        Edge.bounds(Edge.Start.SOME, "A", 1, 99, (x, v) -> x.alter(0, 1, v));
        Edge.bounds(Edge.Start.SOME, "B", 1, 99, (x, v) -> x.alter(0, 2, v));
        Edge.sentence(Edge.TERMS, "with STEPS DONE (0 to 20; 0 at first)");
        Edge.bounds(Edge.Start.SOME, "DONE", 0, 20, (x, v) -> x.alter(0, 4, v));
        HauntSums x = Edge.town("plus 1 1 0;");
        Edge.due("DONE at first, by a text", x.ghost(0, 4), 0);
        x.leave(0, 1, 1, 0);
        Edge.due("DONE at first, by leave", x.ghost(1, 4), 0);
        Edge.sentence(Edge.TERMS, "each in a ROOM, with a SKILL (1 to 3)");
        Edge.bounds(Edge.Start.SOME, "SKILL", 1, 3, (y, v) -> y.post(0, 1, v));
        Edge.sentence(Edge.TERMS, "NIGHT (0 at first)");
        Edge.due("NIGHT of a new object", new HauntSums().rule(2), 0);
        Edge.due("NIGHT of a text", Edge.town(FOUR).rule(2), 0);
    }

    private static int sevens(String figures) {
        return (int) figures.chars().filter(c -> c == '7').count();
    }

    private static void sum(HauntSums x, int kind, int a, int b) {
        x.alter(0, 0, kind);
        x.alter(0, 1, a);
        x.alter(0, 2, b);
        int answer = kind == 0 ? a + b : kind == 1 ? (a > b ? a - b : b - a) : kind == 2 ? a * b : (a - a % b) / b;
        int figures = String.valueOf(answer).length();
        int steps = kind == 0 ? figures : kind == 1 ? figures + 1 : kind == 2 ? figures * 2 : figures * 2 - 1;
        String sum = SUMS[kind] + " " + a + " " + b;
        Edge.due("ANSWER of " + sum, x.ghost(0, 5), answer);
        Edge.due("STEPS of " + sum, x.ghost(0, 6), steps);
        Edge.due("PACE of " + sum, x.ghost(0, 8), answer - answer / 6 * 6);
        Edge.due("CREAKS of " + sum, x.ghost(0, 9), sevens(a + " " + b + " " + answer));
    }

    private static void allSums() {
        Edge.sentence(Edge.TERMS, "over A by B (down)");
        for (int kind = 0; kind < 4; kind++) {
            for (int a = 1; a <= 99; a++) {
                HauntSums x = new HauntSums();
                x.leave(0, 1, 1, 0);
                for (int b = 1; b <= 99; b++) {
                    if (b % 50 == 0) {
                        x = new HauntSums();
                        x.leave(0, 1, 1, 0);
                    }
                    sum(x, kind, a, b);
                }
            }
        }
    }

    private static void sumAtEdge(int kind, int a, int b, int answer, int steps, int pace, int creaks) {
        HauntSums x = new HauntSums();
        x.leave(kind, a, b, 0);
        String sum = SUMS[kind] + " " + a + " " + b;
        Edge.due("ANSWER of " + sum, x.ghost(0, 5), answer);
        Edge.due("STEPS of " + sum, x.ghost(0, 6), steps);
        Edge.due("PACE of " + sum, x.ghost(0, 8), pace);
        Edge.due("CREAKS of " + sum, x.ghost(0, 9), creaks);
    }

    private static void figures() {
        Edge.sentence(Edge.TERMS, "FIGURES of it: how many it is written with");
        sumAtEdge(0, 8, 1, 9, 1, 3, 0);
        sumAtEdge(0, 9, 1, 10, 2, 4, 0);
        sumAtEdge(0, 98, 1, 99, 2, 3, 0);
        sumAtEdge(0, 99, 1, 100, 3, 4, 0);
        sumAtEdge(2, 27, 37, 999, 6, 3, 2);
        sumAtEdge(2, 25, 40, 1000, 8, 4, 0);
        sumAtEdge(2, 99, 99, 9801, 8, 3, 0);
        Edge.sentence(Edge.TERMS, "less by how much A and B are apart");
        sumAtEdge(1, 99, 99, 0, 2, 0, 0);
        sumAtEdge(1, 1, 99, 98, 3, 2, 0);
        sumAtEdge(1, 99, 1, 98, 3, 2, 0);
        Edge.sentence(Edge.TERMS, "less 1 more than a plus; times twice that of a plus; over 1 less than that of a times");
        sumAtEdge(3, 1, 99, 0, 1, 0, 0);
        sumAtEdge(3, 98, 99, 0, 1, 0, 0);
        sumAtEdge(3, 99, 99, 1, 1, 1, 0);
        sumAtEdge(3, 99, 50, 1, 1, 1, 0);
        sumAtEdge(3, 99, 1, 99, 3, 3, 0);
        Edge.sentence(Edge.TERMS, "PACE: ANSWER modulo 6");
        sumAtEdge(0, 1, 4, 5, 1, 5, 0);
        sumAtEdge(0, 1, 5, 6, 1, 0, 0);
        sumAtEdge(0, 1, 6, 7, 1, 1, 1);
        Edge.sentence(Edge.TERMS, "CREAKS: how many figures of A, B, ANSWER are 7");
        sumAtEdge(0, 68, 98, 166, 3, 4, 0);
        sumAtEdge(0, 70, 7, 77, 2, 5, 4);
        sumAtEdge(2, 77, 77, 5929, 8, 1, 4);
        sumAtEdge(2, 7, 97, 679, 6, 1, 3);
    }

    private static void left() {
        Edge.sentence(Edge.TERMS, "LEFT: STEPS less DONE (0 at least); a GHOST RESTS, if nothing is LEFT");
        // 9801: 8 STEPS
        int[] done = {0, 7, 8, 9, 20};
        int[] left = {8, 1, 0, 0, 0};
        for (int i = 0; i < done.length; i++) {
            HauntSums x = new HauntSums();
            x.leave(2, 99, 99, 0);
            x.alter(0, 4, done[i]);
            Edge.due("LEFT with DONE " + done[i], x.ghost(0, 7), left[i]);
            Edge.due("LEFT of all with DONE " + done[i], x.rule(4), left[i]);
            Edge.due("RESTS with DONE " + done[i], x.rule(3), left[i] == 0 ? 1 : 0);
        }
    }

    private static String padded(String text, int length) {
        return text + " ".repeat(length - text.length());
    }

    private static void tape() {
        Edge.sentence(Edge.TERMS, "THE TAPE has 160 bytes, places from 0.");
        Edge.textTaken(" ".repeat(160), 0);
        Edge.textTaken(padded(FOUR, 150) + "done 0 20;", 5);
        Edge.textRefused("!", 0, 1);
        Edge.textRefused(" ".repeat(159) + "!", 159, 1);
        Edge.textRefused(" ".repeat(159) + "x", 159, 2);
        Edge.textRefused(padded("plus", 160), 160, 2);
        Edge.textRefused(padded("done 0 1;", 160), 160, 6);
    }

    private static void tokens() {
        Edge.sentence(Edge.TERMS, "TOKENS, each as long as may be");
        Edge.textTaken("plus1 1 0;", 1);
        Edge.textTaken("plus 1 1 0;clerk0 1;done0 1;", 3);
        Edge.textRefused("plusplus 1 1 0;", 0, 2);
        Edge.textRefused("plus 11 0;", 8, 3);
        Edge.textRefused("plu s 1 1 0;", 0, 2);
        Edge.textRefused("plus 1 1 0 5;", 11, 2);
        Edge.sentence(Edge.TERMS, "blanks (32) between");
        Edge.textTaken(" plus  1   1    0     ;      ", 1);
        for (int c : new int[] {0, 9, 10, 13, 31, 33, 127}) {
            Edge.textRefused("plus" + (char) c + "1 1 0;", 4, 1);
            Edge.textRefused("plus 1 1 0;" + (char) c, 11, 1);
        }
        Edge.sentence(Edge.TERMS, "NAMES (a .. z)");
        Edge.textRefused("a", 0, 2);
        Edge.textRefused("z", 0, 2);
        for (char c : "`{@[AZ".toCharArray()) {
            Edge.textRefused("" + c, 0, 1);
            Edge.textRefused("plus" + c, 4, 1);
        }
        Edge.sentence(Edge.TERMS, "NUMBERS (1 or 2 figures)");
        Edge.textTaken("plus 9 99 0;", 1);
        Edge.textTaken("plus 09 01 00;", 1);
        Edge.textRefused("plus 9/ 9 0;", 6, 1);
        Edge.textRefused("plus 9: 9 0;", 6, 1);
        Edge.sentence(Edge.TERMS, "one ; .");
        Edge.textTaken("plus 1 1 0;", 1);
        Edge.textRefused("plus 1 1 0:", 10, 1);
        Edge.textRefused("plus 1 1 0<", 10, 1);
        Edge.textRefused("plus 1 1 0;;", 11, 2);
        Edge.textRefused(";", 0, 2);
    }

    private static void line(String name, int numbers) {
        String start = "plus 1 1 0;" + name;
        String all = start + " 1".repeat(numbers);
        if (!name.equals("done")) {
            Edge.textTaken(all + ";", 2);
        }
        for (int n = 0; n < numbers; n++) {
            String some = start + " 1".repeat(n);
            Edge.textRefused(some, some.length(), 2);
            Edge.textRefused(some + "  ", some.length() + 2, 2);
            Edge.textRefused(some + ";", some.length(), 2);
            Edge.textRefused(some + " plus", some.length() + 1, 2);
        }
        Edge.textRefused(all, all.length(), 2);
        Edge.textRefused(all + " 1;", all.length() + 1, 2);
        Edge.textRefused(all + " clerk 0 1;", all.length() + 1, 2);
    }

    private static void lines() {
        Edge.sentence(Edge.TERMS, "text: { line }");
        Edge.textTaken("", 0);
        Edge.textTaken("clerk 0 1;", 1);
        Edge.textTaken(FOUR + THREE + "done 0 1;done 1 1;done 2 1;done 3 1;", 11);
        Edge.sentence(Edge.TERMS, "line: plus N N N ; | less N N N ; | times N N N ; | over N N N ; | done N N ; | clerk N N ;");
        for (String name : SUMS) {
            line(name, 3);
        }
        line("done", 2);
        Edge.textTaken("plus 1 1 0;plus 1 1 0;done 1 1;", 3);
        line("clerk", 2);
        Edge.sentence(Edge.TERMS, "2 a TOKEN that can not stand there (a NAME that begins no line; or the end: the length)");
        for (String name : new String[] {"p", "plu", "pluss", "les", "lesss", "time", "timess", "ove", "overs", "don", "dones",
            "cler", "clerks", "splus", "qlus", "plut", "abcdefghijklmnopqrstuvwxyz"}) {
            Edge.textRefused(name + " 1 1 1;", 0, 2);
        }
        Edge.textRefused("1", 0, 2);
        Edge.textRefused("plus 1 1 0; 99", 12, 2);
    }

    private static void tooLong() {
        Edge.sentence(Edge.TERMS, "1 no TOKEN, a NUMBER that is too long (its first byte)");
        Edge.textRefused("plus 100 1 0;", 5, 1);
        Edge.textRefused("plus 1  001 0;", 8, 1);
        Edge.textRefused("plus 1 1 000;", 9, 1);
        Edge.textRefused("plus " + "1".repeat(155), 5, 1);
        Edge.textRefused("000", 0, 1);
        Edge.textRefused("plus 1 1 0 111", 11, 1);
        Edge.textRefused("plus 1 1 0;111", 11, 1);
        Edge.textRefused("plus 999999999999 1 0;", 5, 1);
    }

    private static void outOfBounds() {
        Edge.sentence(Edge.TERMS, "3 a NUMBER out of its bounds");
        for (String name : SUMS) {
            int at = name.length() + 1;
            Edge.textTaken(name + " 1 1 0;", 1);
            Edge.textTaken(name + " 99 99 5;", 1);
            Edge.textRefused(name + " 0 1 0;", at, 3);
            Edge.textRefused(name + " 00 1 0;", at, 3);
            Edge.textRefused(name + " 1 0 0;", at + 2, 3);
            Edge.textRefused(name + " 1 1 6;", at + 4, 3);
            Edge.textRefused(name + " 1 1 99;", at + 4, 3);
        }
        Edge.sentence(Edge.TERMS, "done: a GHOST (0 to 3), DONE.");
        Edge.textTaken(FOUR + "done 0 0;done 3 20;", 6);
        Edge.textRefused(FOUR + "done 4 1;", FOUR.length() + 5, 3);
        Edge.textRefused(FOUR + "done 99 1;", FOUR.length() + 5, 3);
        Edge.textRefused(FOUR + "done 3 21;", FOUR.length() + 7, 3);
        Edge.textRefused(FOUR + "done 3 99;", FOUR.length() + 7, 3);
        HauntSums x = Edge.town(FOUR + "done 3 20;done 1 0;");
        Edge.due("DONE of 3", x.ghost(3, 4), 20);
        Edge.due("DONE of 1", x.ghost(1, 4), 0);
        Edge.due("DONE of 2, not told", x.ghost(2, 4), 0);
        Edge.sentence(Edge.TERMS, "clerk: a CLERK more: ROOM, SKILL.");
        Edge.textTaken("clerk 0 1;clerk 5 3;", 2);
        Edge.textRefused("clerk 6 1;", 6, 3);
        Edge.textRefused("clerk 99 1;", 6, 3);
        Edge.textRefused("clerk 5 0;", 8, 3);
        Edge.textRefused("clerk 5 4;", 8, 3);
    }

    private static void toldAlready() {
        Edge.sentence(Edge.TERMS, "4 a GHOST whose DONE is told already (it)");
        Edge.textTaken(FOUR + "done 3 1;done 2 1;done 1 1;done 0 1;", 8);
        Edge.textRefused(FOUR + "done 0 1;done 0 2;", FOUR.length() + 14, 4);
        Edge.textRefused(FOUR + "done 3 0;done 1 0;done  03 0;", FOUR.length() + 24, 4);
        Edge.textRefused("done 2 20;done 2 20;", 15, 4);
        Edge.textRefused("done 2 20;done 2", 15, 4);
        Edge.textRefused("done 2 20;done 2!", 15, 4);
        Edge.textRefused("done 4 1;done 4 1;", 5, 3);
    }

    private static void tooMany() {
        Edge.sentence(Edge.TERMS, "5 the 5th GHOST, the 4th clerk (its NAME)");
        Edge.textTaken(FOUR + THREE, 7);
        for (String name : SUMS) {
            Edge.textRefused(FOUR + THREE + name + " 1 1 0;", FOUR.length() + THREE.length(), 5);
            Edge.textRefused(FOUR + "  " + name, FOUR.length() + 2, 5);
            Edge.textRefused(FOUR + name + "!", FOUR.length(), 5);
        }
        Edge.textRefused(THREE + FOUR + "clerk 0 1;", THREE.length() + FOUR.length(), 5);
        Edge.textRefused(THREE + " clerk", THREE.length() + 1, 5);
        Edge.textRefused(FOUR + "plusses", FOUR.length(), 2);
        Edge.textTaken(FOUR + "done 3 1;", 5);
    }

    private static void noSuchGhost() {
        Edge.sentence(Edge.TERMS, "Behind all (the length): 6 a GHOST that there is not.");
        Edge.textRefused("done 0 1;", 9, 6);
        Edge.textRefused("done 0 0;  ", 11, 6);
        Edge.textTaken("done 0 1;plus 1 1 0;", 2);
        Edge.textRefused("done 1 1;plus 1 1 0;", 20, 6);
        Edge.textTaken("done 3 1;" + FOUR, 5);
        String threeGhosts = "plus 1 1 0;plus 1 1 0;plus 1 1 0;";
        Edge.textTaken(threeGhosts + "done 2 1;", 4);
        Edge.textRefused(threeGhosts + "done 3 1;", threeGhosts.length() + 9, 6);
        Edge.textRefused("done 3 1;done 2 1;clerk 0 1;", 28, 6);
        Edge.textRefused("done 3 1;plus 1 1 6;", 18, 3);
        Edge.textRefused("done 3 1;plus 1 1 0", 19, 2);
        Edge.textRefused("done 3 1;!", 9, 1);
    }

    private static void firstMet() {
        Edge.sentence(Edge.TERMS, "FAULTS, the first met as it is read (a TOKEN is read when the one before has been taken)");
        Edge.textRefused("x!", 0, 2);
        Edge.textRefused("x 777", 0, 2);
        Edge.textRefused("plus 0!", 5, 3);
        Edge.textRefused("plus 0 777", 5, 3);
        Edge.textRefused("plus 1 1 6!", 9, 3);
        Edge.textRefused("plus ;!", 5, 2);
        Edge.textRefused("plus 1 777 !", 7, 1);
        Edge.textRefused("plus 1 1 0 x!", 11, 2);
        Edge.textRefused("plus 1 1 0;plus 0 1 0;plus 777", 16, 3);
    }

    private static void aTextThatIsTaken() {
        Edge.sentence(Edge.TERMS, "A text that is taken tells all, in place of what there was; nothing is SEEN; IMAGES are gone.");
        HauntSums x = Edge.Start.ALL.make();
        Edge.due("text", x.text(), 9);
        Edge.due("GHOSTS", x.rule(0), 4);
        Edge.due("A of 3", x.ghost(3, 1), 4);
        Edge.due("DONE of 0", x.ghost(0, 4), 1);
        Edge.due("DONE of 2", x.ghost(2, 4), 0);
        Edge.due("DONE of 3", x.ghost(3, 4), 20);
        Edge.due("ROOM of CLERK 2", x.clerk(2, 0), 2);
        HauntSums y = Edge.Start.ALL.make();
        y.end(0);
        Edge.due("text of nothing", y.text(), 0);
        Edge.due("GHOSTS", y.rule(0), 0);
        Edge.due("CLERKS", y.rule(1), 0);
        for (HauntSums z : new HauntSums[] {x, y}) {
            Edge.due("NIGHT", z.rule(2), 0);
            Edge.due("SEEN", z.count(0), 0);
            Edge.due("IMAGES", z.count(1), 0);
            Edge.due("back(0)", z.back(0), Edge.STATE);
            Edge.due("back(1)", z.back(1), Edge.STATE);
            Edge.due("CELLS of SHEET 0", z.count(3), 40);
        }
    }

    private static void clerksByOrder() {
        Edge.sentence(Edge.TERMS, "CLERKS by order: each does, of the first GHOST by order in his ROOM that does not REST");
        String ghosts = "over 1 2 3;times 99 99 3;";
        HauntSums x = Edge.town(ghosts + "clerk 3 3;clerk 3 1;");
        x.nights(1);
        Edge.due("DONE of 0", x.ghost(0, 4), 1);
        Edge.due("DONE of 1: by the second clerk", x.ghost(1, 4), 1);
        HauntSums y = Edge.town(ghosts + "clerk 3 1;clerk 3 3;");
        y.nights(1);
        Edge.due("DONE of 1: by the second clerk", y.ghost(1, 4), 3);
        HauntSums z = Edge.town("times 99 99 2;times 99 99 3;times 99 99 3;done 1 8;clerk 3 2;clerk 4 3;");
        z.nights(1);
        Edge.due("DONE of 0, in another ROOM", z.ghost(0, 4), 0);
        Edge.due("DONE of 1, that RESTS", z.ghost(1, 4), 8);
        Edge.due("DONE of 2", z.ghost(2, 4), 2);
    }

    private static void stepsAtMost() {
        Edge.sentence(Edge.TERMS, "as many STEPS as his SKILL (DONE is so much more, STEPS of it at most)");
        // 9801: 8 STEPS
        for (int skill = 1; skill <= 3; skill++) {
            for (int done = 4; done <= 9; done++) {
                HauntSums x = Edge.town("times 99 99 3;clerk 3 1;");
                x.post(0, 1, skill);
                x.alter(0, 4, done);
                x.nights(1);
                int due = done >= 8 ? done : Math.min(8, done + skill);
                Edge.due("DONE of " + done + " by SKILL " + skill, x.ghost(0, 4), due);
            }
        }
        HauntSums y = Edge.town("over 1 2 3;times 99 99 3;done 0 20;clerk 3 3;");
        y.nights(1);
        Edge.due("DONE above STEPS stays", y.ghost(0, 4), 20);
        HauntSums z = Edge.town("over 1 2 3;times 99 99 3;clerk 3 3;");
        z.nights(1);
        Edge.due("DONE of 0", z.ghost(0, 4), 1);
        Edge.due("DONE of 1: what is over of a SKILL does nothing", z.ghost(1, 4), 0);
    }

    private static void harmThenWalk() {
        Edge.sentence(Edge.TERMS, "Then each GHOST that does not REST does HARM in its ROOM, as much as is LEFT, then walks PACE "
            + "ROOMS on. NIGHT is 1 more.");
        HauntSums x = Edge.town("plus 3 4 5;plus 3 4 2;plus 6 7 2;done 1 1;clerk 2 1;");
        Edge.due("nights(1)", x.nights(1), 1 + 1);
        Edge.due("ROOM of 0, round the ring", x.ghost(0, 3), 0);
        Edge.due("ROOM of 1, that RESTS", x.ghost(1, 3), 2);
        Edge.due("ROOM of 2", x.ghost(2, 3), 3);
        Edge.due("NIGHT", x.rule(2), 1);
        HauntSums y = Edge.town("plus 3 4 5;clerk 5 1;");
        Edge.due("nights(1): it RESTS ahead of HARM", y.nights(1), 0);
        Edge.due("ROOM: it does not walk", y.ghost(0, 3), 5);
        HauntSums z = new HauntSums();
        Edge.due("nights(1) of nothing", z.nights(1), 0);
        Edge.due("NIGHT of nothing", z.rule(2), 1);
    }

    private static void byNights() {
        Edge.sentence(Edge.TERMS, "BY NIGHTS: as it would be from now on.");
        for (Edge.Start start : Edge.Start.values()) {
            Edge.changesNothing(start, "runs(60, 0)", x -> x.runs(60, 0));
            Edge.changesNothing(start, "ahead(0, 60, 0)", x -> x.ahead(0, 60, 0));
            Edge.changesNothing(start, "rests(0)", x -> x.rests(0));
            Edge.changesNothing(start, "meets(0, 0)", x -> x.meets(0, 0));
            Edge.changesNothing(start, "harm(0, 60)", x -> x.harm(0, 60));
        }
        HauntSums x = Edge.Start.LATE.make();
        // over 1 2 and times 2 3 stay: 1 and 2 a NIGHT
        Edge.due("runs(60, 0) at NIGHT 999", x.runs(60, 0), 180);
    }

    private static void seen() {
        Edge.sentence(Edge.TERMS, "SEEN (6): behind n NIGHTS (0 to 20) from now on a GHOST is in a ROOM.");
        HauntSums x = Edge.town("plus 6 7 4;");
        for (int n = 1; n <= 6; n++) {
            Edge.due("see", x.see(0, n, (4 + n) % 6), n);
        }
        Edge.due("the 7th", x.see(0, 0, 4), Edge.FULL);
        Edge.due("kinds", x.kinds(0) & 1, 1);
        Edge.bounds(Edge.Start.SOME, "see behind", 0, 20, (y, v) -> y.see(0, v, 0));
        Edge.bounds(Edge.Start.SOME, "see in", 0, 5, (y, v) -> y.see(0, 0, v));
    }

    private static void sheets() {
        Edge.sentence(Edge.TERMS, "SHEETS 0 to 3 are rows of BYTES (lane 0), SHORTS (1), INTS (2) with 0 to 40 CELLS, or nothing "
            + "(at first).");
        Edge.bounds(Edge.Start.SOME, "SHEET", 0, 3, (x, v) -> x.sheet(v, 0, 1));
        Edge.bounds(Edge.Start.SOME, "lane", 0, 2, (x, v) -> x.sheet(0, v, 1));
        for (int k = 0; k < 4; k++) {
            int sheet = k;
            Edge.refused(Edge.Start.NEW, "lay on nothing", -11, x -> x.lay(sheet, 0, 1));
            for (int n : new int[] {0, 40}) {
                HauntSums x = new HauntSums();
                Edge.due("sheet of " + n, x.sheet(k, 2, n), 1);
                Edge.due("lay on the last", x.lay(k, n - 1, 1), n == 0 ? -12 : 1);
                Edge.due("lay behind it", x.lay(k, n, 1), -12);
            }
        }
        Edge.refused(Edge.Start.ALL, "sheet of 41", Edge.BAD, x -> x.sheet(0, 0, 41));
        Edge.sentence(Edge.TERMS, "A FAULT is what the machine finds: 1 NULL (nothing), 2 INDEX, 3 CAST (another lane), 4 SIZE "
            + "(below 0).");
        Edge.refused(Edge.Start.ALL, "sheet below 0", -14, x -> x.sheet(0, 0, -1));
        Edge.refused(Edge.Start.ALL, "lay behind the end", -12, x -> x.lay(3, 40, 1));
        Edge.refused(Edge.Start.ALL, "lay ahead of the first", -12, x -> x.lay(3, -1, 1));
        HauntSums x = Edge.Start.SOME.make();
        int[][] asked = {{1, 0, 0, 1}, {0, 1, 6, 2}, {0, 0, 0, 3}, {0, 2, 0, 3}};
        for (int[] a : asked) {
            Edge.due("read", x.read(a[0], a[1], a[2], 1), 0);
            Edge.due("torn", x.torn(), a[3]);
        }
    }

    public static void main(String[] args) throws IOException {
        answers();
        theFirstThatFits();
        fractions();
        rooms();
        howManyThere();
        numbersOfEach();
        allSums();
        figures();
        left();
        tape();
        tokens();
        lines();
        tooLong();
        outOfBounds();
        toldAlready();
        tooMany();
        noSuchGhost();
        firstMet();
        aTextThatIsTaken();
        clerksByOrder();
        stepsAtMost();
        harmThenWalk();
        byNights();
        seen();
        sheets();
        Edge.finish(Edge.TERMS);
    }
}
