/** A counting house town where sums that were left off walk at night, till clerks have done them. */
public final class HauntSums {
    public static final int BAD = -1, STATE = -2, FULL = -3, NONE = -4;

    private static final int ROOMS = 6;
    private static final int MOST_GHOSTS = 4;
    private static final int MOST_CLERKS = 3;
    private static final int MOST_SEEN = 6;
    private static final int MOST_BYTES = 160;
    private static final int MOST_DONE = 20;
    private static final int MOST_SKILL = 3;
    private static final int LAST_NIGHT = 999;
    private static final int HIGHEST = 99;
    /** Of an int. */
    private static final int MOST_FIGURES = 10;

    private static final int PLUS = 0, LESS = 1, TIMES = 2, OVER = 3;

    /** How far ahead the calls look that try many towns, and those that try few. */
    private static final int NEAR = 20, FAR = 60;
    private static final int MOST_AT_ONCE = 30;

    private static final int IMAGES = 2;
    private static final int SHEETS = 4;
    private static final int MOST_CELLS = 40;
    private static final int MOST_POSTS = 20;
    private static final int NULL_FOUND = 1, INDEX_FOUND = 2, CAST_FOUND = 3, SIZE_FOUND = 4;

    /** All that is tried is tried on this one walk, so that no call makes an object. */
    private final Walk walk = new Walk();
    private final Town now = new Town();
    private final Tape tape = new Tape();
    private final Reader reader = new Reader(tape);
    private final Town[] images = {new Town(), new Town()};
    private final boolean[] imageIs = new boolean[IMAGES];
    private final Sheets sheets = new Sheets();
    /** For look: of each night and room, how many numbers would bring the ghost there. */
    private final int[] tally = new int[(NEAR + 1) * ROOMS];
    private int textFault;
    private int readFault;

    public HauntSums() {
    }

    // ---- the text

    public int feed(int c) {
        if (!within(c, 0, 127)) {
            return BAD;
        }
        if (tape.length >= MOST_BYTES) {
            return FULL;
        }
        tape.bytes[tape.length] = c;
        tape.length++;
        return tape.length;
    }

    public int end(int n) {
        if (!within(n, 0, tape.length)) {
            return BAD;
        }
        int had = tape.length;
        tape.length = n;
        return had;
    }

    public int text() {
        int lines = reader.takeAll();
        tape.length = 0;
        textFault = reader.found;
        if (reader.found != 0) {
            return -10 - reader.foundAt;
        }
        now.become(reader.draft);
        for (int k = 0; k < IMAGES; k++) {
            imageIs[k] = false;
        }
        return lines;
    }

    public int fault() {
        return textFault;
    }

    public int rule(int what) {
        switch (what) {
            case 0:
                return now.ghosts;
            case 1:
                return now.clerks;
            case 2:
                return now.night;
            case 3:
                walk.begin(now);
                return walk.resting();
            case 4:
                walk.begin(now);
                return walk.leftOfAll();
            case 5:
                return now.creaksOfAll();
            default:
                return BAD;
        }
    }

    public int ghost(int g, int what) {
        if (!now.hasGhost(g)) {
            return BAD;
        }
        switch (what) {
            case 0:
            case 1:
            case 2:
            case 3:
            case 4:
                return now.told(g, what);
            case 5:
                return now.answer(g);
            case 6:
                return now.steps(g);
            case 7:
                return now.left(g);
            case 8:
                return now.answer(g) % ROOMS;
            case 9:
                return now.creaks(g);
            default:
                return BAD;
        }
    }

    public int clerk(int c, int what) {
        if (!now.hasClerk(c) || !within(what, 0, 1)) {
            return BAD;
        }
        return what == 0 ? now.desk[c] : now.skill[c];
    }

    // ---- what is changed

    public int alter(int g, int what, int v) {
        if (!now.hasGhost(g) || !mayBeTold(what, v)) {
            return BAD;
        }
        int was = now.told(g, what);
        now.tell(g, what, v);
        return was;
    }

    public int post(int c, int what, int v) {
        if (!now.hasClerk(c)) {
            return BAD;
        }
        if (what == 0 && isRoom(v)) {
            int was = now.desk[c];
            now.desk[c] = v;
            return was;
        }
        if (what == 1 && within(v, 1, MOST_SKILL)) {
            int was = now.skill[c];
            now.skill[c] = v;
            return was;
        }
        return BAD;
    }

    public int leave(int kind, int a, int b, int room) {
        if (!within(kind, PLUS, OVER) || !within(a, 1, HIGHEST) || !within(b, 1, HIGHEST) || !isRoom(room)) {
            return BAD;
        }
        if (now.ghosts >= MOST_GHOSTS) {
            return FULL;
        }
        now.addGhost(kind, a, b, room);
        return now.ghosts - 1;
    }

    // ---- nights

    public int nights(int n) {
        if (!within(n, 0, MOST_AT_ONCE)) {
            return BAD;
        }
        if (now.night + n > LAST_NIGHT) {
            return FULL;
        }
        int done = harmOf(n);
        now.settle(walk, n);
        return done;
    }

    public int runs(int n, int what) {
        if (!within(n, 0, FAR) || !within(what, 0, 3)) {
            return BAD;
        }
        walk.begin(now);
        if (what == 3) {
            return walk.tillRest((1 << now.ghosts) - 1, n);
        }
        walk.go(n);
        if (what == 0) {
            return walk.harmDone;
        }
        return what == 1 ? walk.resting() : walk.leftOfAll();
    }

    public int ahead(int g, int n, int what) {
        if (!now.hasGhost(g) || !within(n, 0, FAR) || !within(what, 0, 1)) {
            return BAD;
        }
        walkFromNow(n);
        return what == 0 ? walk.room[g] : walk.left[g];
    }

    public int rests(int g) {
        if (!now.hasGhost(g)) {
            return BAD;
        }
        walk.begin(now);
        return walk.tillRest(1 << g, FAR);
    }

    public int meets(int g, int c) {
        if (!now.hasGhost(g) || !now.hasClerk(c)) {
            return BAD;
        }
        walk.begin(now);
        for (int behind = 0; behind <= FAR; behind++) {
            if (walk.left[g] > 0 && walk.room[g] == walk.desk[c]) {
                return behind;
            }
            walk.goOneNight();
        }
        return NONE;
    }

    public int harm(int room, int n) {
        if (!isRoom(room) || !within(n, 0, FAR)) {
            return BAD;
        }
        walkFromNow(n);
        return walk.harmIn[room];
    }

    // ---- what is best

    public int best(int n, int what) {
        if (!within(n, 0, NEAR) || what != 0 && !now.hasClerk(what - 10)) {
            return BAD;
        }
        int plans = power(ROOMS, now.clerks);
        int leastPlan = 0;
        int least = harmByPlan(0, n);
        for (int plan = 1; plan < plans; plan++) {
            int done = harmByPlan(plan, n);
            if (done < least) {
                least = done;
                leastPlan = plan;
            }
        }
        return what == 0 ? least : deskByPlan(leastPlan, what - 10);
    }

    public int learn(int n, int what) {
        if (!within(n, 0, NEAR) || !within(what, 0, 1)) {
            return BAD;
        }
        int who = NONE;
        int least = harmOf(n);
        for (int c = 0; c < now.clerks; c++) {
            if (now.skill[c] < MOST_SKILL) {
                walk.begin(now);
                walk.skill[c]++;
                walk.go(n);
                if (walk.harmDone < least) {
                    least = walk.harmDone;
                    who = c;
                }
            }
        }
        return who == NONE || what == 0 ? who : least;
    }

    public int quiet(int n, int what) {
        if (!within(n, 0, FAR) || !within(what, 0, 1)) {
            return BAD;
        }
        walkFromNow(n);
        int quietest = 0;
        for (int room = 1; room < ROOMS; room++) {
            if (walk.harmIn[room] < walk.harmIn[quietest]) {
                quietest = room;
            }
        }
        return what == 0 ? quietest : walk.harmIn[quietest];
    }

    public int better(int g, int n, int what) {
        if (!now.hasGhost(g) || !within(n, 0, NEAR) || !within(what, 0, 1)) {
            return BAD;
        }
        int number = 1;
        int least = harmWith(g, 1, n);
        for (int b = 2; b <= HIGHEST; b++) {
            int done = harmWith(g, b, n);
            if (done < least) {
                least = done;
                number = b;
            }
        }
        return what == 0 ? number : least;
    }

    public int from(int g, int what) {
        if (!now.hasGhost(g) || !within(what, 0, 1)) {
            return BAD;
        }
        int where = NONE;
        int soonest = FAR + 1;
        for (int room = 0; room < ROOMS; room++) {
            walk.begin(now);
            walk.room[g] = room;
            int behind = walk.tillRest(1 << g, FAR);
            if (behind != NONE && behind < soonest) {
                soonest = behind;
                where = room;
            }
        }
        return where == NONE || what == 0 ? where : soonest;
    }

    // ---- clerks that are ill

    public long luck(int v, int g, int n, int what) {
        if (!within(v, 0, 10) || !now.hasGhost(g) || !within(n, 0, FAR) || !within(what, 0, 1)) {
            return BAD;
        }
        long chances = 0;
        for (int ill = 0; ill < 1 << now.clerks; ill++) {
            goWithout(ill, n);
            if (walk.left[g] == 0) {
                chances += weight(ill, v);
            }
        }
        return lowestTerm(chances, power(10, now.clerks), what);
    }

    public long mean(int v, int n, int what) {
        if (!within(v, 0, 10) || !within(n, 0, FAR) || !within(what, 0, 1)) {
            return BAD;
        }
        long sum = 0;
        for (int ill = 0; ill < 1 << now.clerks; ill++) {
            goWithout(ill, n);
            sum += (long) weight(ill, v) * walk.harmDone;
        }
        return lowestTerm(sum, power(10, now.clerks), what);
    }

    // ---- which sum it is

    public int see(int g, int n, int room) {
        if (!now.hasGhost(g) || !within(n, 0, NEAR) || !isRoom(room)) {
            return BAD;
        }
        if (now.seen >= MOST_SEEN) {
            return FULL;
        }
        now.seenGhost[now.seen] = g;
        now.seenBehind[now.seen] = n;
        now.seenRoom[now.seen] = room;
        now.seen++;
        return now.seen;
    }

    public int forget(int n) {
        if (!within(n, 0, now.seen)) {
            return BAD;
        }
        int were = now.seen;
        now.seen = n;
        return were;
    }

    public int kinds(int g) {
        if (!now.hasGhost(g)) {
            return BAD;
        }
        int bits = 0;
        for (int kind = PLUS; kind <= OVER; kind++) {
            if (isAsSeen(g, kind, now.b[g])) {
                bits |= 1 << kind;
            }
        }
        return bits;
    }

    public int second(int g, int what) {
        if (!now.hasGhost(g) || !within(what, 0, 2)) {
            return BAD;
        }
        int many = 0;
        int least = NONE;
        int greatest = NONE;
        for (int b = 1; b <= HIGHEST; b++) {
            if (isAsSeen(g, now.kind[g], b)) {
                many++;
                greatest = b;
                if (least == NONE) {
                    least = b;
                }
            }
        }
        if (what == 0) {
            return many;
        }
        return what == 1 ? least : greatest;
    }

    public int look(int g, int what) {
        if (!now.hasGhost(g) || !within(what, 0, 1)) {
            return BAD;
        }
        int fewest = tallyRooms(g);
        int when = NONE;
        for (int behind = 0; behind <= NEAR; behind++) {
            int worst = worstBehind(behind);
            if (worst < fewest) {
                fewest = worst;
                when = behind;
            }
        }
        return when == NONE || what == 0 ? when : fewest;
    }

    // ---- by a seed

    public int drift(int seed, int n, int what) {
        if (!within(n, 1, FAR) || !within(what, 0, 1)) {
            return BAD;
        }
        if (now.clerks <= 0) {
            return STATE;
        }
        walk.begin(now);
        int s = seed;
        for (int i = 0; i < n; i++) {
            s = s * 1103515245 + 12345;
            int got = (s >>> 16) & 0x7FFF;
            walk.desk[got % now.clerks] = got / 8 % ROOMS;
            walk.goOneNight();
        }
        return what == 0 ? walk.harmDone : walk.resting();
    }

    // ---- images, sheets

    public int keep(int k) {
        if (!within(k, 0, IMAGES - 1)) {
            return BAD;
        }
        int was = imageIs[k] ? 1 : 0;
        images[k].become(now);
        imageIs[k] = true;
        return was;
    }

    public int back(int k) {
        if (!within(k, 0, IMAGES - 1)) {
            return BAD;
        }
        if (!imageIs[k]) {
            return STATE;
        }
        now.become(images[k]);
        return now.night;
    }

    public int sheet(int k, int lane, int n) {
        if (!sheets.isOne(k) || !sheets.isLane(lane) || n > MOST_CELLS) {
            return BAD;
        }
        if (n < 0) {
            return -10 - SIZE_FOUND;
        }
        sheets.renew(k, lane, n);
        return 1;
    }

    public int lay(int k, int i, int v) {
        if (!sheets.isOne(k)) {
            return BAD;
        }
        int found = sheets.faultOf(k, sheets.lane[k], i);
        if (found != 0) {
            return -10 - found;
        }
        sheets.put(k, i, v);
        return 1;
    }

    public int read(int k, int lane, int f, int n) {
        if (!sheets.isOne(k) || !sheets.isLane(lane) || !within(n, 0, MOST_POSTS)) {
            return BAD;
        }
        walk.begin(now);
        int came = 0;
        int found = 0;
        for (int i = 0; i < n; i++) {
            int at = f + 2 * i;
            found = sheets.faultOfPair(k, lane, at);
            if (found != 0) {
                break;
            }
            int c = sheets.cell(k, at);
            int room = sheets.cell(k, at + 1);
            if (!now.hasClerk(c) || !isRoom(room) || now.night + i >= LAST_NIGHT) {
                return -20 - i;
            }
            walk.desk[c] = room;
            walk.goOneNight();
            came++;
        }
        now.settle(walk, came);
        readFault = found;
        return came;
    }

    public int torn() {
        return readFault;
    }

    public int count(int what) {
        switch (what) {
            case 0:
                return now.seen;
            case 1:
                return (imageIs[0] ? 1 : 0) + (imageIs[1] ? 1 : 0);
            case 2:
                return tape.length;
            case 3:
                return sheets.isNothing(0) ? NONE : sheets.length[0];
            case 4:
                return now.skillOfAll();
            default:
                return BAD;
        }
    }

    // ---- bounds and numbers

    private static boolean within(int v, int least, int most) {
        return v >= least && v <= most;
    }

    private static boolean isRoom(int v) {
        return within(v, 0, ROOMS - 1);
    }

    /** Whether v may be KIND, A, B, ROOM, DONE (what 0 to 4) of a ghost. */
    private static boolean mayBeTold(int what, int v) {
        switch (what) {
            case 0:
                return within(v, PLUS, OVER);
            case 1:
            case 2:
                return within(v, 1, HIGHEST);
            case 3:
                return isRoom(v);
            case 4:
                return within(v, 0, MOST_DONE);
            default:
                return false;
        }
    }

    private static int power(int base, int times) {
        int product = 1;
        for (int i = 0; i < times; i++) {
            product *= base;
        }
        return product;
    }

    /** The numerator (what 0) or the denominator of a fraction in lowest terms. */
    private static long lowestTerm(long above, long below, int what) {
        long common = commonDivisor(above, below);
        if (common <= 0) {
            return 0;
        }
        return (what == 0 ? above : below) / common;
    }

    private static long commonDivisor(long x, long y) {
        long larger = x;
        long smaller = y;
        for (int i = 0; i < 200 && smaller != 0; i++) {
            long remainder = larger % smaller;
            larger = smaller;
            smaller = remainder;
        }
        return larger;
    }

    // ---- sums

    private static int answerOf(int kind, int a, int b) {
        switch (kind) {
            case PLUS:
                return a + b;
            case LESS:
                return Math.abs(a - b);
            case TIMES:
                return a * b;
            default:
                return b == 0 ? 0 : a / b;
        }
    }

    private static int stepsOf(int kind, int answer) {
        int figures = figuresOf(answer);
        switch (kind) {
            case PLUS:
                return figures;
            case LESS:
                return figures + 1;
            case TIMES:
                return 2 * figures;
            default:
                return 2 * figures - 1;
        }
    }

    private static int figuresOf(int number) {
        int figures = 1;
        int rest = number / 10;
        for (int i = 0; i < MOST_FIGURES && rest > 0; i++) {
            figures++;
            rest /= 10;
        }
        return figures;
    }

    private static int sevensOf(int number) {
        int sevens = 0;
        int rest = number;
        for (int i = 0; i < MOST_FIGURES && rest > 0; i++) {
            if (rest % 10 == 7) {
                sevens++;
            }
            rest /= 10;
        }
        return sevens;
    }

    // ---- towns that are tried

    private void walkFromNow(int n) {
        walk.begin(now);
        walk.go(n);
    }

    private int harmOf(int n) {
        walkFromNow(n);
        return walk.harmDone;
    }

    private int harmWith(int g, int b, int n) {
        walk.begin(now);
        walk.reckon(g, now.kind[g], now.a[g], b, now.done[g]);
        walk.go(n);
        return walk.harmDone;
    }

    private int harmByPlan(int plan, int n) {
        walk.begin(now);
        for (int c = 0; c < now.clerks; c++) {
            walk.desk[c] = deskByPlan(plan, c);
        }
        walk.go(n);
        return walk.harmDone;
    }

    /** Plans are numbers to the base of ROOMS with clerk 0 in front, so that the first by clerks is the least. */
    private int deskByPlan(int plan, int c) {
        int rest = plan;
        for (int behind = now.clerks - 1; behind > c; behind--) {
            rest /= ROOMS;
        }
        return rest % ROOMS;
    }

    private void goWithout(int ill, int n) {
        walk.begin(now);
        for (int c = 0; c < now.clerks; c++) {
            if ((ill >> c & 1) == 1) {
                walk.skill[c] = 0;
            }
        }
        walk.go(n);
    }

    /** Of ten to the power of the clerks, in how many just these are ill. */
    private int weight(int ill, int v) {
        int product = 1;
        for (int c = 0; c < now.clerks; c++) {
            product *= (ill >> c & 1) == 1 ? v : 10 - v;
        }
        return product;
    }

    private boolean isAsSeen(int g, int kind, int b) {
        walk.begin(now);
        walk.reckon(g, kind, now.a[g], b, now.done[g]);
        int last = now.lastSeenBehind();
        for (int behind = 0; behind <= last; behind++) {
            if (!now.agrees(walk, behind)) {
                return false;
            }
            walk.goOneNight();
        }
        return true;
    }

    /** Fills the tally with all numbers that the ghost may have: how many these are. */
    private int tallyRooms(int g) {
        for (int i = 0; i < tally.length; i++) {
            tally[i] = 0;
        }
        int many = 0;
        for (int b = 1; b <= HIGHEST; b++) {
            if (isAsSeen(g, now.kind[g], b)) {
                many++;
                tallyTrail(g, b);
            }
        }
        return many;
    }

    private void tallyTrail(int g, int b) {
        walk.begin(now);
        walk.reckon(g, now.kind[g], now.a[g], b, now.done[g]);
        for (int behind = 0; behind <= NEAR; behind++) {
            tally[behind * ROOMS + walk.room[g]]++;
            walk.goOneNight();
        }
    }

    private int worstBehind(int behind) {
        int worst = 0;
        for (int room = 0; room < ROOMS; room++) {
            worst = Math.max(worst, tally[behind * ROOMS + room]);
        }
        return worst;
    }

    /** What is told of ghosts and clerks, and what was seen: all that an image holds. */
    private static final class Town {
        int ghosts;
        final int[] kind = new int[MOST_GHOSTS];
        final int[] a = new int[MOST_GHOSTS];
        final int[] b = new int[MOST_GHOSTS];
        final int[] room = new int[MOST_GHOSTS];
        final int[] done = new int[MOST_GHOSTS];
        int clerks;
        final int[] desk = new int[MOST_CLERKS];
        final int[] skill = new int[MOST_CLERKS];
        int night;
        int seen;
        final int[] seenGhost = new int[MOST_SEEN];
        final int[] seenBehind = new int[MOST_SEEN];
        final int[] seenRoom = new int[MOST_SEEN];

        void empty() {
            ghosts = 0;
            clerks = 0;
            night = 0;
            seen = 0;
        }

        void become(Town other) {
            ghosts = other.ghosts;
            System.arraycopy(other.kind, 0, kind, 0, MOST_GHOSTS);
            System.arraycopy(other.a, 0, a, 0, MOST_GHOSTS);
            System.arraycopy(other.b, 0, b, 0, MOST_GHOSTS);
            System.arraycopy(other.room, 0, room, 0, MOST_GHOSTS);
            System.arraycopy(other.done, 0, done, 0, MOST_GHOSTS);
            clerks = other.clerks;
            System.arraycopy(other.desk, 0, desk, 0, MOST_CLERKS);
            System.arraycopy(other.skill, 0, skill, 0, MOST_CLERKS);
            night = other.night;
            seen = other.seen;
            System.arraycopy(other.seenGhost, 0, seenGhost, 0, MOST_SEEN);
            System.arraycopy(other.seenBehind, 0, seenBehind, 0, MOST_SEEN);
            System.arraycopy(other.seenRoom, 0, seenRoom, 0, MOST_SEEN);
        }

        boolean hasGhost(int g) {
            return within(g, 0, ghosts - 1);
        }

        boolean hasClerk(int c) {
            return within(c, 0, clerks - 1);
        }

        void addGhost(int newKind, int newA, int newB, int newRoom) {
            if (ghosts < MOST_GHOSTS) {
                kind[ghosts] = newKind;
                a[ghosts] = newA;
                b[ghosts] = newB;
                room[ghosts] = newRoom;
                done[ghosts] = 0;
                ghosts++;
            }
        }

        void addClerk(int newDesk, int newSkill) {
            if (clerks < MOST_CLERKS) {
                desk[clerks] = newDesk;
                skill[clerks] = newSkill;
                clerks++;
            }
        }

        /** KIND, A, B, ROOM, DONE (what 0 to 4) of a ghost. */
        int told(int g, int what) {
            switch (what) {
                case 0:
                    return kind[g];
                case 1:
                    return a[g];
                case 2:
                    return b[g];
                case 3:
                    return room[g];
                default:
                    return done[g];
            }
        }

        void tell(int g, int what, int v) {
            switch (what) {
                case 0:
                    kind[g] = v;
                    break;
                case 1:
                    a[g] = v;
                    break;
                case 2:
                    b[g] = v;
                    break;
                case 3:
                    room[g] = v;
                    break;
                default:
                    done[g] = v;
                    break;
            }
        }

        int answer(int g) {
            return answerOf(kind[g], a[g], b[g]);
        }

        int steps(int g) {
            return stepsOf(kind[g], answer(g));
        }

        int left(int g) {
            return Math.max(0, steps(g) - done[g]);
        }

        int creaks(int g) {
            return sevensOf(a[g]) + sevensOf(b[g]) + sevensOf(answer(g));
        }

        int creaksOfAll() {
            int sum = 0;
            for (int g = 0; g < ghosts; g++) {
                sum += creaks(g);
            }
            return sum;
        }

        int skillOfAll() {
            int sum = 0;
            for (int c = 0; c < clerks; c++) {
                sum += skill[c];
            }
            return sum;
        }

        int lastSeenBehind() {
            int last = -1;
            for (int i = 0; i < seen; i++) {
                last = Math.max(last, seenBehind[i]);
            }
            return last;
        }

        /** Whether a walk is, behind so many nights, as was seen behind as many. */
        boolean agrees(Walk walk, int behind) {
            for (int i = 0; i < seen; i++) {
                if (seenBehind[i] == behind && walk.room[seenGhost[i]] != seenRoom[i]) {
                    return false;
                }
            }
            return true;
        }

        /** The nights that a walk begun here has gone are gone for good. */
        void settle(Walk walk, int nightsGone) {
            for (int g = 0; g < ghosts; g++) {
                // a ghost that was not worked at keeps its DONE, which may be above its STEPS
                if (walk.left[g] < left(g)) {
                    done[g] = steps(g) - walk.left[g];
                }
                room[g] = walk.room[g];
            }
            for (int c = 0; c < clerks; c++) {
                desk[c] = walk.desk[c];
            }
            night += nightsGone;
        }
    }

    /** A town by nights: only what the nights need, so that many may be tried cheaply. */
    private static final class Walk {
        int ghosts;
        final int[] room = new int[MOST_GHOSTS];
        final int[] left = new int[MOST_GHOSTS];
        final int[] pace = new int[MOST_GHOSTS];
        int clerks;
        final int[] desk = new int[MOST_CLERKS];
        final int[] skill = new int[MOST_CLERKS];
        int harmDone;
        final int[] harmIn = new int[ROOMS];

        void begin(Town town) {
            ghosts = town.ghosts;
            for (int g = 0; g < ghosts; g++) {
                room[g] = town.room[g];
                reckon(g, town.kind[g], town.a[g], town.b[g], town.done[g]);
            }
            clerks = town.clerks;
            for (int c = 0; c < clerks; c++) {
                desk[c] = town.desk[c];
                skill[c] = town.skill[c];
            }
            harmDone = 0;
            for (int r = 0; r < ROOMS; r++) {
                harmIn[r] = 0;
            }
        }

        void reckon(int g, int kind, int a, int b, int done) {
            int answer = answerOf(kind, a, b);
            left[g] = Math.max(0, stepsOf(kind, answer) - done);
            pace[g] = answer % ROOMS;
        }

        void go(int n) {
            for (int i = 0; i < n; i++) {
                goOneNight();
            }
        }

        void goOneNight() {
            for (int c = 0; c < clerks; c++) {
                work(desk[c], skill[c]);
            }
            for (int g = 0; g < ghosts; g++) {
                if (left[g] > 0) {
                    harmDone += left[g];
                    harmIn[room[g]] += left[g];
                    room[g] = (room[g] + pace[g]) % ROOMS;
                }
            }
        }

        void work(int where, int stepsDone) {
            for (int g = 0; g < ghosts; g++) {
                if (left[g] > 0 && room[g] == where) {
                    left[g] = Math.max(0, left[g] - stepsDone);
                    return;
                }
            }
        }

        /** Behind how many nights all ghosts of these bits rest first, most at most. */
        int tillRest(int bits, int most) {
            for (int behind = 0; behind <= most; behind++) {
                if ((resting() & bits) == bits) {
                    return behind;
                }
                goOneNight();
            }
            return NONE;
        }

        int resting() {
            int bits = 0;
            for (int g = 0; g < ghosts; g++) {
                if (left[g] == 0) {
                    bits |= 1 << g;
                }
            }
            return bits;
        }

        int leftOfAll() {
            int sum = 0;
            for (int g = 0; g < ghosts; g++) {
                sum += left[g];
            }
            return sum;
        }
    }

    private static final class Tape {
        final int[] bytes = new int[MOST_BYTES];
        int length;
    }

    /** Reads the tape into a draft, so that a fault leaves the town as it was. */
    private static final class Reader {
        static final int END = 0, NAME = 1, NUMBER = 2, SEMICOLON = 3;
        static final int DONE = 4, CLERK = 5;
        static final int NO_TOKEN = 1, OUT_OF_PLACE = 2, OUT_OF_BOUNDS = 3, TOLD_ALREADY = 4, TOO_MANY = 5, NO_GHOST = 6;
        static final int UNTOLD = -1;

        final Tape tape;
        final Town draft = new Town();
        final int[] doneTold = new int[MOST_GHOSTS];
        int place;
        int token;
        int start;
        int number;
        int found;
        int foundAt;

        Reader(Tape tape) {
            this.tape = tape;
        }

        /** How many lines there are, if no fault is found. */
        int takeAll() {
            draft.empty();
            place = 0;
            found = 0;
            foundAt = 0;
            for (int g = 0; g < MOST_GHOSTS; g++) {
                doneTold[g] = UNTOLD;
            }
            for (int lines = 0; lines <= MOST_BYTES; lines++) {
                if (!nextToken()) {
                    return lines;
                }
                if (token == END) {
                    tellDone();
                    return lines;
                }
                if (!takeLine()) {
                    return lines;
                }
            }
            return 0;
        }

        void tellDone() {
            for (int g = 0; g < MOST_GHOSTS && found == 0; g++) {
                if (doneTold[g] != UNTOLD) {
                    if (draft.hasGhost(g)) {
                        draft.done[g] = doneTold[g];
                    } else {
                        refuse(NO_GHOST, tape.length);
                    }
                }
            }
        }

        boolean takeLine() {
            int sort = token == NAME ? sortOfLine() : NONE;
            if (sort == NONE) {
                return refuse(OUT_OF_PLACE, start);
            }
            if (sort == DONE) {
                return takeDone();
            }
            if (sort == CLERK) {
                return draft.clerks < MOST_CLERKS ? takeClerk() : refuse(TOO_MANY, start);
            }
            return draft.ghosts < MOST_GHOSTS ? takeGhost(sort) : refuse(TOO_MANY, start);
        }

        int sortOfLine() {
            if (isNamed("plus")) {
                return PLUS;
            }
            if (isNamed("less")) {
                return LESS;
            }
            if (isNamed("times")) {
                return TIMES;
            }
            if (isNamed("over")) {
                return OVER;
            }
            if (isNamed("done")) {
                return DONE;
            }
            return isNamed("clerk") ? CLERK : NONE;
        }

        boolean isNamed(String name) {
            if (place - start != name.length()) {
                return false;
            }
            for (int i = 0; i < name.length(); i++) {
                if (tape.bytes[start + i] != name.charAt(i)) {
                    return false;
                }
            }
            return true;
        }

        boolean takeGhost(int kind) {
            if (!takeNumber(1, HIGHEST)) {
                return false;
            }
            int a = number;
            if (!takeNumber(1, HIGHEST)) {
                return false;
            }
            int b = number;
            if (!takeNumber(0, ROOMS - 1) || !takeSemicolon()) {
                return false;
            }
            draft.addGhost(kind, a, b, number);
            return true;
        }

        boolean takeDone() {
            if (!takeNumber(0, MOST_GHOSTS - 1)) {
                return false;
            }
            int g = number;
            if (doneTold[g] != UNTOLD) {
                return refuse(TOLD_ALREADY, start);
            }
            if (!takeNumber(0, MOST_DONE) || !takeSemicolon()) {
                return false;
            }
            doneTold[g] = number;
            return true;
        }

        boolean takeClerk() {
            if (!takeNumber(0, ROOMS - 1)) {
                return false;
            }
            int desk = number;
            if (!takeNumber(1, MOST_SKILL) || !takeSemicolon()) {
                return false;
            }
            draft.addClerk(desk, number);
            return true;
        }

        boolean takeNumber(int least, int most) {
            if (!nextToken()) {
                return false;
            }
            if (token != NUMBER) {
                return refuse(OUT_OF_PLACE, start);
            }
            return within(number, least, most) || refuse(OUT_OF_BOUNDS, start);
        }

        boolean takeSemicolon() {
            if (!nextToken()) {
                return false;
            }
            return token == SEMICOLON || refuse(OUT_OF_PLACE, start);
        }

        boolean nextToken() {
            passRun(' ', ' ');
            start = place;
            if (place >= tape.length) {
                token = END;
                return true;
            }
            int first = tape.bytes[place];
            if (first == ';') {
                place++;
                token = SEMICOLON;
                return true;
            }
            if (first >= 'a' && first <= 'z') {
                passRun('a', 'z');
                token = NAME;
                return true;
            }
            passRun('0', '9');
            token = NUMBER;
            int figures = place - start;
            if (figures < 1 || figures > 2) {
                return refuse(NO_TOKEN, start);
            }
            number = first - '0';
            if (figures == 2) {
                number = number * 10 + tape.bytes[start + 1] - '0';
            }
            return true;
        }

        void passRun(int low, int high) {
            for (; place < tape.length && tape.bytes[place] >= low && tape.bytes[place] <= high; place++) {
            }
        }

        /** Answers false, so that a line that is refused can say so in one word. */
        boolean refuse(int fault, int at) {
            found = fault;
            foundAt = at;
            return false;
        }
    }

    /** Rows of cells, kept in one row that is used again, with what the machine would find in them. */
    private static final class Sheets {
        static final int BYTES = 0, SHORTS = 1, INTS = 2;
        static final int NOTHING = -1;

        final int[] lane = {NOTHING, NOTHING, NOTHING, NOTHING};
        final int[] length = new int[SHEETS];
        final int[] cells = new int[SHEETS * MOST_CELLS];

        boolean isOne(int k) {
            return within(k, 0, SHEETS - 1);
        }

        boolean isLane(int v) {
            return within(v, BYTES, INTS);
        }

        boolean isNothing(int k) {
            return lane[k] == NOTHING;
        }

        void renew(int k, int newLane, int n) {
            lane[k] = newLane;
            length[k] = n;
            for (int i = 0; i < n; i++) {
                cells[k * MOST_CELLS + i] = 0;
            }
        }

        /** Of nothing there is no lane, so that it is found ahead of another lane. */
        int faultOf(int k, int takenAs, int i) {
            if (isNothing(k)) {
                return NULL_FOUND;
            }
            if (lane[k] != takenAs) {
                return CAST_FOUND;
            }
            return within(i, 0, length[k] - 1) ? 0 : INDEX_FOUND;
        }

        int faultOfPair(int k, int takenAs, int i) {
            int found = faultOf(k, takenAs, i);
            return found != 0 ? found : faultOf(k, takenAs, i + 1);
        }

        int cell(int k, int i) {
            return cells[k * MOST_CELLS + i];
        }

        void put(int k, int i, int v) {
            int kept = v;
            if (lane[k] == BYTES) {
                kept = (byte) v;
            } else if (lane[k] == SHORTS) {
                kept = (short) v;
            }
            cells[k * MOST_CELLS + i] = kept;
        }
    }
}
