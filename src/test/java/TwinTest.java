import java.lang.reflect.Method;
import java.lang.reflect.Modifier;
import java.util.ArrayList;
import java.util.Arrays;
import java.util.Comparator;
import java.util.List;
import java.util.Random;
import java.util.TreeSet;
import java.util.function.Consumer;
import java.util.function.ToIntFunction;
import java.util.regex.Matcher;
import java.util.regex.Pattern;

/** Long random runs of calls against a second program that was written from the document in another way. */
public final class TwinTest {
    private static final int BAD = -1, STATE = -2, FULL = -3, NONE = -4;
    /** What the document promises of one object: "at most 512 calls after it has been made". */
    private static final int CALLS = 512;

    private static final class Ghost {
        int kind, a, b, room, done;

        Ghost(int kind, int a, int b, int room, int done) {
            this.kind = kind;
            this.a = a;
            this.b = b;
            this.room = room;
            this.done = done;
        }

        int answer() {
            return kind == 0 ? a + b : kind == 1 ? Math.max(a, b) - Math.min(a, b) : kind == 2 ? a * b : a / b;
        }

        int steps() {
            int plus = Integer.toString(answer()).length();
            return kind == 0 ? plus : kind == 1 ? plus + 1 : kind == 2 ? 2 * plus : 2 * plus - 1;
        }

        int left() {
            return done >= steps() ? 0 : steps() - done;
        }

        boolean rests() {
            return left() == 0;
        }

        int creaks() {
            return (int) ("" + a + b + answer()).chars().filter(c -> c == '7').count();
        }

        int[] told() {
            return new int[] {kind, a, b, room, done, answer(), steps(), left(), answer() % 6, creaks()};
        }
    }

    private static final class State {
        final List<Ghost> ghosts = new ArrayList<>();
        final List<int[]> clerks = new ArrayList<>();
        final List<int[]> seen = new ArrayList<>();
        int night;
        int[] harm = new int[6];

        State copy() {
            State s = new State();
            ghosts.forEach(g -> s.ghosts.add(new Ghost(g.kind, g.a, g.b, g.room, g.done)));
            clerks.forEach(c -> s.clerks.add(c.clone()));
            s.seen.addAll(seen);
            s.night = night;
            return s;
        }

        State with(Consumer<State> change) {
            State s = copy();
            change.accept(s);
            return s;
        }

        State behind(int n) {
            State s = copy();
            for (int i = 0; i < n; i++) {
                s.night(0);
            }
            return s;
        }

        void night(int ill) {
            for (int c = 0; c < clerks.size(); c++) {
                int[] clerk = clerks.get(c);
                if ((ill & 1 << c) == 0) {
                    ghosts.stream().filter(g -> g.room == clerk[0] && !g.rests()).findFirst()
                        .ifPresent(g -> g.done = Math.min(g.steps(), g.done + clerk[1]));
                }
            }
            for (Ghost g : ghosts) {
                if (!g.rests()) {
                    harm[g.room] += g.left();
                    g.room = (g.room + g.answer()) % 6;
                }
            }
            night++;
        }

        int harm() {
            return Arrays.stream(harm).sum();
        }

        int harm(int n) {
            return behind(n).harm();
        }

        int resting() {
            int bits = 0;
            for (int g = 0; g < ghosts.size(); g++) {
                bits |= ghosts.get(g).rests() ? 1 << g : 0;
            }
            return bits;
        }

        int left() {
            return ghosts.stream().mapToInt(Ghost::left).sum();
        }

        /** The first number of nights, most at most, behind which a town is so (a function that answers 1). */
        int first(int most, ToIntFunction<State> so) {
            for (int n = 0; n <= most; n++) {
                if (so.applyAsInt(behind(n)) == 1) {
                    return n;
                }
            }
            return NONE;
        }

        boolean asSeen() {
            return seen.stream().allMatch(s -> behind(s[1]).ghosts.get(s[0]).room == s[2]);
        }
    }

    private static final class Twin {
        State now = new State();
        StringBuilder tape = new StringBuilder();
        final State[] images = new State[2];
        final Object[] sheets = new Object[4];
        int fault, torn;

        int fault() {
            return fault;
        }

        int torn() {
            return torn;
        }

        boolean g(int g) {
            return g >= 0 && g < now.ghosts.size();
        }

        boolean c(int c) {
            return c >= 0 && c < now.clerks.size();
        }

        static boolean in(int v, int least, int most) {
            return least <= v && v <= most;
        }

        int feed(int c) {
            if (c < 0 || c > 127) {
                return BAD;
            }
            return tape.length() == 160 ? FULL : tape.append((char) c).length();
        }

        int end(int n) {
            int had = tape.length();
            if (!in(n, 0, had)) {
                return BAD;
            }
            tape.setLength(n);
            return had;
        }

        private static final class Fault extends RuntimeException {
            private static final long serialVersionUID = 1;
            final int which, place;

            Fault(int which, int place) {
                this.which = which;
                this.place = place;
            }
        }

        private static final Pattern TOKEN = Pattern.compile(" *(?:([a-z]+)|([0-9]+)|(;)|\\z|(?s:(.)))");

        int text() {
            String all = tape.toString();
            tape.setLength(0);
            fault = 0;
            try {
                State s = new State();
                int lines = parse(all, s);
                now = s;
                Arrays.fill(images, null);
                return lines;
            } catch (Fault f) {
                fault = f.which;
                return -10 - f.place;
            }
        }

        private int parse(String all, State s) {
            Matcher m = TOKEN.matcher(all);
            int[] done = {-1, -1, -1, -1};
            String names = "plus less times over done clerk ";
            int lines = 0;
            for (;; lines++) {
                int at = token(m, all);
                if (at == all.length()) {
                    break;
                }
                String name = taken[1];
                int sort = name == null ? -1 : List.of(names.split(" ")).indexOf(name);
                if (sort < 0) {
                    throw new Fault(2, at);
                }
                if (sort < 4 && s.ghosts.size() == 4 || sort == 5 && s.clerks.size() == 3) {
                    throw new Fault(5, at);
                }
                int[][] bounds = sort < 4 ? new int[][] {{1, 99}, {1, 99}, {0, 5}}
                    : sort == 4 ? new int[][] {{0, 3}, {0, 20}} : new int[][] {{0, 5}, {1, 3}};
                int[] n = new int[bounds.length];
                for (int i = 0; i < n.length; i++) {
                    at = token(m, all);
                    if (at == all.length() || taken[2] == null) {
                        throw new Fault(2, at);
                    }
                    n[i] = Integer.parseInt(taken[2]);
                    if (!in(n[i], bounds[i][0], bounds[i][1])) {
                        throw new Fault(3, at);
                    }
                    if (sort == 4 && i == 0 && done[n[0]] >= 0) {
                        throw new Fault(4, at);
                    }
                }
                at = token(m, all);
                if (at == all.length() || taken[3] == null) {
                    throw new Fault(2, at);
                }
                if (sort < 4) {
                    s.ghosts.add(new Ghost(sort, n[0], n[1], n[2], 0));
                } else if (sort == 4) {
                    done[n[0]] = n[1];
                } else {
                    s.clerks.add(n);
                }
            }
            for (int g = 0; g < 4; g++) {
                if (done[g] >= 0) {
                    if (g >= s.ghosts.size()) {
                        throw new Fault(6, all.length());
                    }
                    s.ghosts.get(g).done = done[g];
                }
            }
            return lines;
        }

        /** Of the token: its text under its sort (1 name, 2 number, 3 semicolon). */
        private final String[] taken = new String[4];

        private int token(Matcher m, String all) {
            if (!m.lookingAt()) {
                throw new IllegalStateException(all);
            }
            if (m.group(4) != null) {
                throw new Fault(1, m.start(4));
            }
            int at = all.length();
            for (int i = 1; i <= 3; i++) {
                taken[i] = m.group(i);
                at = taken[i] != null ? m.start(i) : at;
            }
            if (taken[2] != null && taken[2].length() > 2) {
                throw new Fault(1, at);
            }
            m.region(m.end(), all.length());
            return at;
        }

        int rule(int what) {
            int[] all = {now.ghosts.size(), now.clerks.size(), now.night, now.resting(), now.left(),
                now.ghosts.stream().mapToInt(Ghost::creaks).sum()};
            return in(what, 0, 5) ? all[what] : BAD;
        }

        int ghost(int g, int what) {
            return g(g) && in(what, 0, 9) ? now.ghosts.get(g).told()[what] : BAD;
        }

        int clerk(int c, int what) {
            return c(c) && in(what, 0, 1) ? now.clerks.get(c)[what] : BAD;
        }

        int alter(int g, int what, int v) {
            int[] least = {0, 1, 1, 0, 0};
            int[] most = {3, 99, 99, 5, 20};
            if (!g(g) || !in(what, 0, 4) || !in(v, least[what], most[what])) {
                return BAD;
            }
            int was = ghost(g, what);
            Ghost x = now.ghosts.get(g);
            int[] t = x.told();
            t[what] = v;
            now.ghosts.set(g, new Ghost(t[0], t[1], t[2], t[3], t[4]));
            return was;
        }

        int post(int c, int what, int v) {
            if (!c(c) || !in(what, 0, 1) || !in(v, what == 0 ? 0 : 1, what == 0 ? 5 : 3)) {
                return BAD;
            }
            int was = now.clerks.get(c)[what];
            now.clerks.get(c)[what] = v;
            return was;
        }

        int leave(int kind, int a, int b, int room) {
            if (!in(kind, 0, 3) || !in(a, 1, 99) || !in(b, 1, 99) || !in(room, 0, 5)) {
                return BAD;
            }
            if (now.ghosts.size() == 4) {
                return FULL;
            }
            now.ghosts.add(new Ghost(kind, a, b, room, 0));
            return now.ghosts.size() - 1;
        }

        int nights(int n) {
            if (!in(n, 0, 30)) {
                return BAD;
            }
            if (now.night + n >= 1000) {
                return FULL;
            }
            now = now.behind(n);
            int harm = now.harm();
            now.harm = new int[6];
            return harm;
        }

        int runs(int n, int what) {
            if (!in(n, 0, 60) || !in(what, 0, 3)) {
                return BAD;
            }
            State s = now.behind(n);
            return what == 0 ? s.harm() : what == 1 ? s.resting() : what == 2 ? s.left()
                : now.first(n, t -> t.left() == 0 ? 1 : 0);
        }

        int ahead(int g, int n, int what) {
            if (!g(g) || !in(n, 0, 60) || !in(what, 0, 1)) {
                return BAD;
            }
            Ghost x = now.behind(n).ghosts.get(g);
            return what == 0 ? x.room : x.left();
        }

        int rests(int g) {
            return g(g) ? now.first(60, s -> s.ghosts.get(g).rests() ? 1 : 0) : BAD;
        }

        int meets(int g, int c) {
            return !g(g) || !c(c) ? BAD : now.first(60, s ->
                !s.ghosts.get(g).rests() && s.ghosts.get(g).room == s.clerks.get(c)[0] ? 1 : 0);
        }

        int harm(int room, int n) {
            return in(room, 0, 5) && in(n, 0, 60) ? now.behind(n).harm[room] : BAD;
        }

        int best(int n, int what) {
            if (!in(n, 0, 20) || what != 0 && !(what >= 10 && c(what - 10))) {
                return BAD;
            }
            List<int[]> plans = new ArrayList<>();
            plans(plans, new int[now.clerks.size()], 0);
            int[] best = null;
            int least = Integer.MAX_VALUE;
            for (int[] plan : plans) {
                int harm = now.with(s -> {
                    for (int c = 0; c < plan.length; c++) {
                        s.clerks.get(c)[0] = plan[c];
                    }
                }).harm(n);
                if (harm < least) {
                    least = harm;
                    best = plan;
                }
            }
            return what == 0 ? least : best[what - 10];
        }

        private static void plans(List<int[]> plans, int[] plan, int c) {
            if (c == plan.length) {
                plans.add(plan.clone());
                return;
            }
            for (int room = 0; room < 6; room++) {
                plan[c] = room;
                plans(plans, plan, c + 1);
            }
        }

        int learn(int n, int what) {
            if (!in(n, 0, 20) || !in(what, 0, 1)) {
                return BAD;
            }
            TreeSet<Integer> found = new TreeSet<>();
            for (int c = 0; c < now.clerks.size(); c++) {
                int who = c;
                if (now.clerks.get(c)[1] < 3) {
                    int harm = now.with(s -> s.clerks.get(who)[1]++).harm(n);
                    if (harm < now.harm(n)) {
                        found.add(harm * 10 + c);
                    }
                }
            }
            return found.isEmpty() ? NONE : what == 0 ? found.first() % 10 : found.first() / 10;
        }

        int quiet(int n, int what) {
            if (!in(n, 0, 60) || !in(what, 0, 1)) {
                return BAD;
            }
            int[] harm = now.behind(n).harm;
            int least = Arrays.stream(harm).min().getAsInt();
            return what == 1 ? least : Arrays.stream(harm).boxed().toList().indexOf(least);
        }

        int better(int g, int n, int what) {
            if (!g(g) || !in(n, 0, 20) || !in(what, 0, 1)) {
                return BAD;
            }
            TreeSet<Integer> found = new TreeSet<>();
            for (int i = 1; i <= 99; i++) {
                int b = i;
                found.add(now.with(s -> s.ghosts.get(g).b = b).harm(n) * 100 + b);
            }
            return what == 0 ? found.first() % 100 : found.first() / 100;
        }

        int from(int g, int what) {
            if (!g(g) || !in(what, 0, 1)) {
                return BAD;
            }
            TreeSet<Integer> found = new TreeSet<>();
            for (int i = 0; i < 6; i++) {
                int room = i;
                int n = now.with(s -> s.ghosts.get(g).room = room).first(60, s -> s.ghosts.get(g).rests() ? 1 : 0);
                if (n != NONE) {
                    found.add(n * 10 + room);
                }
            }
            return found.isEmpty() ? NONE : what == 0 ? found.first() % 10 : found.first() / 10;
        }

        private long odds(int v, int n, int what, ToIntFunction<State> worth) {
            long sum = 0, all = 0;
            for (int ill = 0; ill < 1 << now.clerks.size(); ill++) {
                State s = now.copy();
                for (int i = 0; i < n; i++) {
                    s.night(ill);
                }
                long weight = 1;
                for (int c = 0; c < now.clerks.size(); c++) {
                    weight *= (ill & 1 << c) != 0 ? v : 10 - v;
                }
                sum += weight * worth.applyAsInt(s);
                all += weight;
            }
            for (long d : new long[] {2, 3, 5, 7}) {
                while (sum % d == 0 && all % d == 0) {
                    sum /= d;
                    all /= d;
                }
            }
            return what == 0 ? sum : all;
        }

        long luck(int v, int g, int n, int what) {
            return in(v, 0, 10) && g(g) && in(n, 0, 60) && in(what, 0, 1)
                ? odds(v, n, what, s -> s.ghosts.get(g).rests() ? 1 : 0) : BAD;
        }

        long mean(int v, int n, int what) {
            return in(v, 0, 10) && in(n, 0, 60) && in(what, 0, 1) ? odds(v, n, what, State::harm) : BAD;
        }

        int see(int g, int n, int room) {
            if (!g(g) || !in(n, 0, 20) || !in(room, 0, 5)) {
                return BAD;
            }
            if (now.seen.size() == 6) {
                return FULL;
            }
            now.seen.add(new int[] {g, n, room});
            return now.seen.size();
        }

        int forget(int n) {
            int were = now.seen.size();
            if (!in(n, 0, were)) {
                return BAD;
            }
            now.seen.subList(n, were).clear();
            return were;
        }

        int kinds(int g) {
            if (!g(g)) {
                return BAD;
            }
            int bits = 0;
            for (int i = 0; i < 4; i++) {
                int kind = i;
                bits += now.with(s -> s.ghosts.get(g).kind = kind).asSeen() ? 1 << i : 0;
            }
            return bits;
        }

        private List<State> maybe(int g) {
            List<State> found = new ArrayList<>();
            for (int i = 1; i <= 99; i++) {
                int b = i;
                State s = now.with(t -> t.ghosts.get(g).b = b);
                if (s.asSeen()) {
                    found.add(s);
                }
            }
            return found;
        }

        int second(int g, int what) {
            if (!g(g) || !in(what, 0, 2)) {
                return BAD;
            }
            List<State> found = maybe(g);
            if (what == 0) {
                return found.size();
            }
            return found.isEmpty() ? NONE : found.get(what == 1 ? 0 : found.size() - 1).ghosts.get(g).b;
        }

        int look(int g, int what) {
            if (!g(g) || !in(what, 0, 1)) {
                return BAD;
            }
            List<State> found = maybe(g);
            TreeSet<Integer> times = new TreeSet<>();
            for (int n = 0; n <= 20; n++) {
                int[] rooms = new int[6];
                for (State s : found) {
                    rooms[s.behind(n).ghosts.get(g).room]++;
                }
                int worst = Arrays.stream(rooms).max().getAsInt();
                if (worst < found.size()) {
                    times.add(worst * 100 + n);
                }
            }
            return times.isEmpty() ? NONE : what == 0 ? times.first() % 100 : times.first() / 100;
        }

        int drift(int seed, int n, int what) {
            if (!in(n, 1, 60) || !in(what, 0, 1)) {
                return BAD;
            }
            if (now.clerks.isEmpty()) {
                return STATE;
            }
            State s = now.copy();
            long x = seed & 0xFFFFFFFFL;
            for (int i = 0; i < n; i++) {
                x = (x * 1103515245L + 12345) % (1L << 32);
                x = x < 0 ? x + (1L << 32) : x;
                int got = (int) (x % (1L << 31) / (1L << 16));
                s.clerks.get(got % s.clerks.size())[0] = got / 8 % 6;
                s.night(0);
            }
            return what == 0 ? s.harm() : s.resting();
        }

        int keep(int k) {
            if (!in(k, 0, 1)) {
                return BAD;
            }
            int was = images[k] == null ? 0 : 1;
            images[k] = now.copy();
            return was;
        }

        int back(int k) {
            if (!in(k, 0, 1)) {
                return BAD;
            }
            if (images[k] == null) {
                return STATE;
            }
            now = images[k].copy();
            return now.night;
        }

        int sheet(int k, int lane, int n) {
            if (!in(k, 0, 3) || !in(lane, 0, 2) || n > 40) {
                return BAD;
            }
            try {
                sheets[k] = lane == 0 ? new byte[n] : lane == 1 ? new short[n] : (Object) new int[n];
                return 1;
            } catch (NegativeArraySizeException e) {
                return -14;
            }
        }

        int lay(int k, int i, int v) {
            if (!in(k, 0, 3)) {
                return BAD;
            }
            try {
                if (sheets[k] instanceof byte[] b) {
                    b[i] = (byte) v;
                } else if (sheets[k] instanceof short[] s) {
                    s[i] = (short) v;
                } else {
                    ((int[]) sheets[k])[i] = v;
                }
                return 1;
            } catch (NullPointerException e) {
                return -11;
            } catch (ArrayIndexOutOfBoundsException e) {
                return -12;
            }
        }

        private int cell(int k, int lane, int i) {
            return lane == 0 ? ((byte[]) sheets[k])[i] : lane == 1 ? ((short[]) sheets[k])[i] : ((int[]) sheets[k])[i];
        }

        int read(int k, int lane, int f, int n) {
            if (!in(k, 0, 3) || !in(lane, 0, 2) || !in(n, 0, 20)) {
                return BAD;
            }
            State s = now.copy();
            int came = 0;
            int found = 0;
            try {
                while (came < n) {
                    int c = cell(k, lane, f + 2 * came);
                    int room = cell(k, lane, f + 2 * came + 1);
                    if (!c(c) || !in(room, 0, 5) || s.night == 999) {
                        return -20 - came;
                    }
                    s.clerks.get(c)[0] = room;
                    s.night(0);
                    came++;
                }
            } catch (NullPointerException e) {
                found = 1;
            } catch (ArrayIndexOutOfBoundsException e) {
                found = 2;
            } catch (ClassCastException e) {
                found = 3;
            }
            torn = found;
            now = s.copy();
            return came;
        }

        int count(int what) {
            switch (what) {
                case 0:
                    return now.seen.size();
                case 1:
                    return (int) Arrays.stream(images).filter(i -> i != null).count();
                case 2:
                    return tape.length();
                case 3:
                    return sheets[0] == null ? NONE : java.lang.reflect.Array.getLength(sheets[0]);
                case 4:
                    return now.clerks.stream().mapToInt(c -> c[1]).sum();
                default:
                    return BAD;
            }
        }
    }

    private static final int[] STRANGE = {Integer.MIN_VALUE, Integer.MIN_VALUE + 1, -1000, -2, -1, 0, 1, 2, 3, 4, 5, 6, 7,
        9, 10, 11, 12, 13, 20, 21, 30, 31, 40, 41, 60, 61, 99, 100, 127, 128, 255, 256, 65536, Integer.MAX_VALUE - 1,
        Integer.MAX_VALUE};

    private final Random random;
    private final StringBuilder calls = new StringBuilder();
    private HauntSums x;
    private Twin y;
    private int made;
    private int wrong;

    private TwinTest(long seed) {
        random = new Random(seed);
    }

    /** Mostly within bounds, at times just outside, at times strange. */
    private int pick(int least, int most) {
        int sort = random.nextInt(40);
        if (sort == 0) {
            return STRANGE[random.nextInt(STRANGE.length)];
        }
        return sort == 1 ? most + 1 : sort == 2 ? least - 1 : sort == 3 ? most : least + random.nextInt(most - least + 1);
    }

    private int anyGhost() {
        return pick(0, Math.max(0, y.now.ghosts.size() - 1));
    }

    private int anyClerk() {
        return pick(0, Math.max(0, y.now.clerks.size() - 1));
    }

    private void check(String call, long got, long want) {
        made++;
        calls.append(call).append(" = ").append(want).append('\n');
        if (got != want) {
            wrong++;
            System.out.println(calls);
            System.out.println("the last answered " + got);
        }
    }

    private String anyText() {
        StringBuilder s = new StringBuilder();
        String[] names = {"plus", "less", "times", "over", "done", "clerk"};
        int lines = random.nextInt(10);
        for (int i = 0; i < lines; i++) {
            int sort = random.nextInt(9);
            sort = sort > 5 ? 5 - sort % 2 * 3 : sort;
            s.append(names[sort]).append(' ');
            if (sort < 4) {
                s.append(1 + random.nextInt(99)).append(' ').append(1 + random.nextInt(99)).append(' ')
                    .append(random.nextInt(6));
            } else if (sort == 4) {
                s.append(random.nextInt(4)).append(' ').append(random.nextInt(random.nextInt(8) == 0 ? 22 : 4));
            } else {
                s.append(random.nextInt(6)).append(' ').append(1 + random.nextInt(3));
            }
            s.append(random.nextInt(6) == 0 ? " ; " : ";");
        }
        if (random.nextInt(3) == 0 && s.length() > 0) {
            int at = random.nextInt(s.length());
            String bytes = " ;0127abcdeklmnoprstuvAZ\n\u0000\u007f";
            char c = bytes.charAt(random.nextInt(bytes.length()));
            switch (random.nextInt(3)) {
                case 0:
                    s.setCharAt(at, c);
                    break;
                case 1:
                    s.insert(at, c);
                    break;
                default:
                    s.deleteCharAt(at);
                    break;
            }
        }
        if (random.nextInt(12) == 0) {
            s.setLength(random.nextInt(s.length() + 1));
        }
        return s.toString();
    }

    private void tellText() {
        String text = anyText();
        if (made + text.length() + 2 > CALLS) {
            return;
        }
        for (int i = 0; i < text.length(); i++) {
            feed(text.charAt(i));
        }
        check("text()", x.text(), y.text());
        check("fault()", x.fault(), y.fault());
    }

    private void feed(int c) {
        check("feed(" + c + ")", x.feed(c), y.feed(c));
    }

    private void askText(int sort) {
        int what = pick(0, 9);
        int g = anyGhost();
        int c = anyClerk();
        int v = pick(0, sort == 3 ? 99 : 6);
        switch (sort) {
            case 0:
                check("rule(" + what + ")", x.rule(what), y.rule(what));
                break;
            case 1:
                check("ghost(" + g + ", " + what + ")", x.ghost(g, what), y.ghost(g, what));
                break;
            case 2:
                check("clerk(" + c + ", " + what % 3 + ")", x.clerk(c, what % 3), y.clerk(c, what % 3));
                break;
            case 3:
            case 4:
                check("alter(" + g + ", " + what % 6 + ", " + v + ")", x.alter(g, what % 6, v), y.alter(g, what % 6, v));
                break;
            case 5:
                check("post(" + c + ", " + what % 3 + ", " + v + ")", x.post(c, what % 3, v), y.post(c, what % 3, v));
                break;
            case 6:
                int kind = pick(0, 3);
                int a = pick(1, 99);
                int b = pick(1, 99);
                check("leave(" + kind + ", " + a + ", " + b + ", " + v + ")", x.leave(kind, a, b, v), y.leave(kind, a, b, v));
                break;
            case 7:
                feed(pick(0, 127));
                break;
            default:
                int n = pick(0, Math.max(1, y.tape.length()));
                check("end(" + n + ")", x.end(n), y.end(n));
                break;
        }
    }

    private void askNights(int sort) {
        int g = anyGhost();
        int c = anyClerk();
        int what = pick(0, 3);
        int n = pick(0, 60);
        int few = random.nextInt(9) == 0 ? pick(0, 30) : pick(0, 2);
        int room = pick(0, 5);
        switch (sort) {
            case 0:
                check("nights(" + few + ")", x.nights(few), y.nights(few));
                break;
            case 1:
                check("runs(" + n + ", " + what + ")", x.runs(n, what), y.runs(n, what));
                break;
            case 2:
                check("ahead(" + g + ", " + n + ", " + what / 2 + ")", x.ahead(g, n, what / 2), y.ahead(g, n, what / 2));
                break;
            case 3:
                check("rests(" + g + ")", x.rests(g), y.rests(g));
                break;
            case 4:
                check("meets(" + g + ", " + c + ")", x.meets(g, c), y.meets(g, c));
                break;
            default:
                check("harm(" + room + ", " + n + ")", x.harm(room, n), y.harm(room, n));
                break;
        }
    }

    private void askBest(int sort) {
        int g = anyGhost();
        int what = pick(0, 1);
        int n = pick(0, 20);
        int far = pick(0, 60);
        int v = pick(0, 10);
        switch (sort) {
            case 0:
                int which = random.nextInt(2) == 0 ? what : 10 + anyClerk();
                check("best(" + n + ", " + which + ")", x.best(n, which), y.best(n, which));
                break;
            case 1:
                check("learn(" + n + ", " + what + ")", x.learn(n, what), y.learn(n, what));
                break;
            case 2:
                check("quiet(" + far + ", " + what + ")", x.quiet(far, what), y.quiet(far, what));
                break;
            case 3:
                check("better(" + g + ", " + n + ", " + what + ")", x.better(g, n, what), y.better(g, n, what));
                break;
            case 4:
                check("from(" + g + ", " + what + ")", x.from(g, what), y.from(g, what));
                break;
            case 5:
                check("luck(" + v + ", " + g + ", " + far + ", " + what + ")", x.luck(v, g, far, what),
                    y.luck(v, g, far, what));
                break;
            case 6:
                check("mean(" + v + ", " + far + ", " + what + ")", x.mean(v, far, what), y.mean(v, far, what));
                break;
            default:
                int seed = random.nextInt();
                check("drift(" + seed + ", " + far + ", " + what + ")", x.drift(seed, far, what), y.drift(seed, far, what));
                break;
        }
    }

    private void askSeen(int sort) {
        int g = anyGhost();
        int n = pick(0, random.nextInt(2) == 0 ? 3 : 20);
        int what = pick(0, 2);
        int room = pick(0, 5);
        switch (sort) {
            case 0:
            case 1:
                // mostly what may be seen, so that not all is ruled out at once
                int where = y.g(g) && Twin.in(n, 0, 20) && random.nextInt(4) > 0
                    ? y.now.behind(n).ghosts.get(g).room : room;
                check("see(" + g + ", " + n + ", " + where + ")", x.see(g, n, where), y.see(g, n, where));
                break;
            case 2:
                int first = pick(0, 6);
                check("forget(" + first + ")", x.forget(first), y.forget(first));
                break;
            case 3:
                check("kinds(" + g + ")", x.kinds(g), y.kinds(g));
                break;
            case 4:
                check("second(" + g + ", " + what + ")", x.second(g, what), y.second(g, what));
                break;
            case 5:
                check("look(" + g + ", " + what % 2 + ")", x.look(g, what % 2), y.look(g, what % 2));
                break;
            case 6:
                check("keep(" + what / 2 + ")", x.keep(what / 2), y.keep(what / 2));
                break;
            default:
                check("back(" + what / 2 + ")", x.back(what / 2), y.back(what / 2));
                break;
        }
    }

    private void askSheets(int sort) {
        int k = pick(0, 3);
        int lane = pick(0, 2);
        int cells = pick(0, 40);
        int i = pick(0, 12);
        int n = pick(0, random.nextInt(5) == 0 ? 20 : 3);
        int v = random.nextInt(9) == 0 ? random.nextInt() : i % 2 == 0 ? anyClerk() : pick(0, 5);
        if (Twin.in(k, 0, 3) && random.nextInt(3) > 0) {
            Object s = y.sheets[k];
            lane = s instanceof byte[] ? 0 : s instanceof short[] ? 1 : 2;
        }
        switch (sort) {
            case 0:
                check("sheet(" + k + ", " + lane + ", " + cells + ")", x.sheet(k, lane, cells), y.sheet(k, lane, cells));
                break;
            case 1:
            case 2:
            case 3:
                check("lay(" + k + ", " + i + ", " + v + ")", x.lay(k, i, v), y.lay(k, i, v));
                break;
            case 4:
                check("read(" + k + ", " + lane + ", " + i + ", " + n + ")", x.read(k, lane, i, n), y.read(k, lane, i, n));
                break;
            case 5:
                check("torn()", x.torn(), y.torn());
                break;
            default:
                int what = pick(0, 4);
                check("count(" + what + ")", x.count(what), y.count(what));
                break;
        }
    }

    private void oneObject() {
        x = new HauntSums();
        y = new Twin();
        made = 0;
        calls.setLength(0);
        tellText();
        // late nights are rare else
        if (random.nextInt(10) == 0) {
            for (int i = 0; i < 33; i++) {
                check("nights(30)", x.nights(30), y.nights(30));
            }
        }
        while (made < CALLS && wrong == 0) {
            switch (random.nextInt(12)) {
                case 0:
                    if (random.nextInt(4) == 0) {
                        tellText();
                    }
                    break;
                case 1:
                case 2:
                    askText(random.nextInt(9));
                    break;
                case 3:
                case 4:
                    askNights(random.nextInt(6));
                    break;
                case 5:
                case 6:
                    askBest(random.nextInt(8));
                    break;
                case 7:
                case 8:
                case 9:
                    askSeen(random.nextInt(8));
                    break;
                default:
                    askSheets(random.nextInt(7));
                    break;
            }
        }
    }

    /** All calls alike, by numbers that need not fit them; a call that throws ends the test. */
    private void strangeObject() throws ReflectiveOperationException {
        x = new HauntSums();
        y = new Twin();
        made = 0;
        calls.setLength(0);
        tellText();
        while (made < CALLS && wrong == 0) {
            Method theirs = METHODS.get(random.nextInt(METHODS.size()));
            Class<?>[] sorts = theirs.getParameterTypes();
            Object[] numbers = new Object[sorts.length];
            for (int i = 0; i < numbers.length; i++) {
                numbers[i] = random.nextInt(4) == 0 ? STRANGE[random.nextInt(STRANGE.length)] : random.nextInt(5);
            }
            Method ours = Twin.class.getDeclaredMethod(theirs.getName(), sorts);
            long got = ((Number) theirs.invoke(x, numbers)).longValue();
            long want = ((Number) ours.invoke(y, numbers)).longValue();
            check(theirs.getName() + Arrays.toString(numbers), got, want);
        }
    }

    private static final List<Method> METHODS = Arrays.stream(HauntSums.class.getDeclaredMethods())
        .filter(m -> Modifier.isPublic(m.getModifiers())).sorted(Comparator.comparing(Method::getName)).toList();

    public static void main(String[] args) throws ReflectiveOperationException {
        int objects = args.length > 0 ? Integer.parseInt(args[0]) : 150;
        for (int i = 0; i < objects; i++) {
            TwinTest t = new TwinTest(i);
            t.oneObject();
            if (t.wrong == 0 && t.made == CALLS) {
                t.strangeObject();
            }
            if (t.wrong != 0 || t.made != CALLS) {
                System.out.println("object " + i + " behind " + t.made + " calls");
                System.exit(1);
            }
        }
        System.out.println(2 * objects + " objects answered as their twins, up to the " + CALLS + "th call");
    }
}
