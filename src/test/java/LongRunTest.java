import java.io.IOException;
import java.util.ArrayList;
import java.util.List;

/** Up to the 512th call of one object all promises hold: whatever went ahead, a call answers as it does on a young object. */
public final class LongRunTest {
    private static final int CALLS = 512;
    private static final int BAD = Edge.BAD, STATE = Edge.STATE, FULL = Edge.FULL, NONE = Edge.NONE;
    private static final int LOW = Integer.MIN_VALUE, HIGH = Integer.MAX_VALUE;

    /** An object with how many calls it has had. */
    private static final class Used {
        final HauntSums x = new HauntSums();
        int made;

        long call(Edge.Call c) {
            made++;
            if (made > CALLS) {
                throw new IllegalStateException("more than " + CALLS + " calls");
            }
            return c.of(x);
        }

        void due(String name, long want, Edge.Call c) {
            long got = call(c);
            Edge.due(name + ", call " + made, got, want);
        }

        void feedAll(String text) {
            for (int i = 0; i < text.length(); i++) {
                int c = text.charAt(i);
                call(x -> x.feed(c));
            }
        }

        void wasUsedUp() {
            Edge.due("calls made", made, CALLS);
        }
    }

    private record Named(String name, Edge.Call call) {
    }

    // ---- every call as the last, behind 511 others

    private static final String TOWN = "times 25 41 4;plus 6 7 1;over 90 9 2;clerk 0 1;clerk 3 2;done 1 1;";

    /** Makes of any object whose sheet 3 is nothing the same town: all that came before is told anew. */
    private static void settle(Used u) {
        u.call(x -> x.end(0));
        u.feedAll("plus 0");
        u.call(HauntSums::text);
        u.feedAll(TOWN);
        u.call(HauntSums::text);
        u.call(x -> x.keep(1));
        u.call(x -> x.nights(3));
        u.call(x -> x.see(0, 1, 2));
        u.call(x -> x.forget(0));
        u.call(x -> x.see(1, 2, 4));
        for (int lane = 0; lane < 3; lane++) {
            int k = lane;
            u.call(x -> x.sheet(k, k, 6));
            u.call(x -> x.lay(k, 0, 1));
            u.call(x -> x.lay(k, 1, 4));
            u.call(x -> x.lay(k, 3, 5));
        }
        u.call(x -> x.read(2, 1, 0, 1));
        u.feedAll("clerk 2 3;");
    }

    /** Of each promise its answers and what it refuses. */
    private static List<Named> lastCalls() {
        List<Named> all = new ArrayList<>();
        all.add(new Named("feed", x -> x.feed(' ')));
        all.add(new Named("feed, bad", x -> x.feed(128)));
        all.add(new Named("end", x -> x.end(3)));
        all.add(new Named("end, bad", x -> x.end(11)));
        all.add(new Named("text", HauntSums::text));
        all.add(new Named("fault", HauntSums::fault));
        all.add(new Named("torn", HauntSums::torn));
        for (int i = -1; i <= 10; i++) {
            int what = i;
            all.add(new Named("rule " + what, x -> x.rule(what)));
            all.add(new Named("ghost " + what, x -> x.ghost(0, what)));
            all.add(new Named("clerk " + what, x -> x.clerk(1, what)));
            all.add(new Named("alter " + what, x -> x.alter(2, what, 3)));
            all.add(new Named("post " + what, x -> x.post(0, what, 3)));
            all.add(new Named("runs " + what, x -> x.runs(60, what)));
            all.add(new Named("ahead " + what, x -> x.ahead(0, 60, what)));
            all.add(new Named("best " + what, x -> x.best(20, what)));
            all.add(new Named("learn " + what, x -> x.learn(20, what)));
            all.add(new Named("quiet " + what, x -> x.quiet(60, what)));
            all.add(new Named("better " + what, x -> x.better(0, 20, what)));
            all.add(new Named("from " + what, x -> x.from(0, what)));
            all.add(new Named("luck " + what, x -> x.luck(3, 0, 60, what)));
            all.add(new Named("mean " + what, x -> x.mean(3, 60, what)));
            all.add(new Named("second " + what, x -> x.second(1, what)));
            all.add(new Named("look " + what, x -> x.look(0, what)));
            all.add(new Named("drift " + what, x -> x.drift(-5, 60, what)));
            all.add(new Named("count " + what, x -> x.count(what)));
            all.add(new Named("best of " + (what + 10), x -> x.best(20, what + 10)));
        }
        for (int i = -1; i <= 4; i++) {
            int v = i;
            all.add(new Named("leave " + v, x -> x.leave(v, 7, 70, 5)));
            all.add(new Named("nights " + v, x -> x.nights(10 * v)));
            all.add(new Named("rests " + v, x -> x.rests(v)));
            all.add(new Named("meets " + v, x -> x.meets(v, 1)));
            all.add(new Named("harm " + v, x -> x.harm(v, 60)));
            all.add(new Named("see " + v, x -> x.see(v, 20, 5)));
            all.add(new Named("forget " + v, x -> x.forget(v)));
            all.add(new Named("kinds " + v, x -> x.kinds(v)));
            all.add(new Named("keep " + v, x -> x.keep(v)));
            all.add(new Named("back " + v, x -> x.back(v)));
            all.add(new Named("sheet " + v, x -> x.sheet(v, 1, 40)));
            all.add(new Named("sheet of lane " + v, x -> x.sheet(0, v, -1)));
            all.add(new Named("lay " + v, x -> x.lay(v, 5, 258)));
            all.add(new Named("read " + v, x -> x.read(v, 1, 0, 1)));
            all.add(new Named("read by lane " + v, x -> x.read(0, v, 2, 3)));
        }
        return all;
    }

    /** One call of each sort after another, some of which change what there is and some of which are refused. */
    private static Edge.Call busy(int i) {
        int v = i / 36;
        switch (i % 36) {
            case 0:
                return x -> x.feed("clerk 0 3;".charAt(v % 10));
            case 1:
                return x -> x.end(v % 3);
            case 2:
                return HauntSums::text;
            case 3:
                return x -> x.leave(v % 4, 99 - v, 1 + v, v % 6);
            case 4:
                return x -> x.alter(0, v % 6, v);
            case 5:
                return x -> x.post(0, v % 3, v);
            case 6:
                return x -> x.nights(v % 32);
            case 7:
                return x -> x.see(v % 2, v % 22, v % 7);
            case 8:
                return x -> x.keep(v % 3);
            case 9:
                return x -> x.back(v % 3);
            case 10:
                return x -> x.forget(v % 4);
            case 11:
                return x -> x.sheet(v % 3, v % 4, v * 7 - 5);
            case 12:
                return x -> x.lay(v % 4, v, HIGH - v);
            case 13:
                return x -> x.read(v % 5, v % 3, 0, v);
            case 14:
                return x -> x.best(20, 0);
            case 15:
                return x -> x.better(v % 4, 20, 0);
            case 16:
                return x -> x.look(v % 4, 0);
            case 17:
                return x -> x.drift(v, 60, 0);
            case 18:
                return x -> x.luck(v % 11, 0, 60, 1);
            case 19:
                return x -> x.mean(v % 11, 60, 1);
            case 20:
                return x -> x.learn(20, v % 3);
            case 21:
                return x -> x.from(v % 4, 1);
            default:
                return x -> x.feed(i % 2 == 0 ? LOW : 'z');
        }
    }

    private static void eachCallLast() {
        Edge.sentence(Edge.TERMS, "An object is used for at most 512 calls after it has been made");
        Used counted = new Used();
        settle(counted);
        for (Named last : lastCalls()) {
            Used young = new Used();
            settle(young);
            long want = young.call(last.call);
            Used old = new Used();
            for (int i = 0; i < CALLS - 1 - counted.made; i++) {
                old.call(busy(i));
            }
            settle(old);
            old.due(last.name, want, last.call);
            old.wasUsedUp();
        }
    }

    /** What is asked changes nothing, however often: the last answers are as the first. */
    private static void askedOverAndOver() {
        for (Named n : List.of(new Named("best", x -> x.best(20, 0)), new Named("better", x -> x.better(0, 20, 0)),
            new Named("from", x -> x.from(0, 1)), new Named("look", x -> x.look(0, 1)), new Named("second", x -> x.second(0, 0)),
            new Named("kinds", x -> x.kinds(1)), new Named("luck", x -> x.luck(3, 0, 60, 0)),
            new Named("mean", x -> x.mean(3, 60, 0)), new Named("learn", x -> x.learn(20, 1)),
            new Named("quiet", x -> x.quiet(60, 1)), new Named("harm", x -> x.harm(4, 60)), new Named("runs", x -> x.runs(60, 0)),
            new Named("ahead", x -> x.ahead(0, 60, 0)), new Named("rests", x -> x.rests(0)), new Named("meets", x -> x.meets(0, 1)),
            new Named("drift", x -> x.drift(99, 60, 0)), new Named("torn", HauntSums::torn), new Named("fault", HauntSums::fault))) {
            Used u = new Used();
            settle(u);
            long first = u.call(n.call);
            for (int i = u.made; i < CALLS; i++) {
                u.due(n.name, first, n.call);
            }
            u.wasUsedUp();
        }
    }

    // ---- long runs by numbers worked out by hand

    /** The tape is filled three times; each time a text of 160 bytes is taken, and the 161st byte is refused. */
    private static void tapeIsFilledThrice() {
        Used u = new Used();
        for (int round = 0; round < 3; round++) {
            for (int i = 1; i <= 160; i++) {
                int c = i > 148 ? "over 9 2 5; ".charAt(i - 149) : ' ';
                u.due("feed", i, x -> x.feed(c));
            }
            u.due("feed, the 161st", FULL, x -> x.feed(' '));
            u.due("text", 1, HauntSums::text);
            u.due("ghost", 5, x -> x.ghost(0, 3));
        }
        for (int i = 1; i <= 22; i++) {
            int had = i;
            u.due("feed", had, x -> x.feed('a'));
        }
        u.due("text", -10, HauntSums::text);
        u.wasUsedUp();
    }

    /** A times of 4 steps walks 0 rooms on; none works at it till the last nights. */
    private static void nightsOneByOne() {
        Used u = new Used();
        u.feedAll("times 6 2 3;clerk 2 1;");
        u.due("text", 2, HauntSums::text);
        int night = 0;
        while (u.made < CALLS - 9) {
            u.due("nights(1)", 4, x -> x.nights(1));
            night++;
            u.due("NIGHT", night, x -> x.rule(2));
        }
        u.due("ROOM", 3, x -> x.ghost(0, 3));
        u.due("post", 2, x -> x.post(0, 0, 3));
        u.due("rests", 4, x -> x.rests(0));
        u.due("nights(1)", 3, x -> x.nights(1));
        u.due("nights(1)", 2, x -> x.nights(1));
        u.due("nights(1)", 1, x -> x.nights(1));
        u.due("nights(1)", 0, x -> x.nights(1));
        u.due("nights(1)", 0, x -> x.nights(1));
        u.due("rests", 0, x -> x.rests(0));
        u.wasUsedUp();
    }

    /** NIGHT comes to 999, where nights and reads are refused over and over; an image leads back, again and again. */
    private static void tillTheLastNight() {
        Used u = new Used();
        u.feedAll("less 8 2 1;clerk 0 2;");
        u.due("text", 2, HauntSums::text);
        u.due("sheet", 1, x -> x.sheet(0, 0, 2));
        u.due("keep(0)", 0, x -> x.keep(0));
        for (int round = 0; round < 8; round++) {
            for (int i = 0; i < 33; i++) {
                u.due("nights(30)", 60, x -> x.nights(30));
            }
            u.due("nights(10)", FULL, x -> x.nights(10));
            u.due("nights(9)", 18, x -> x.nights(9));
            u.due("nights(1)", FULL, x -> x.nights(1));
            u.due("nights(0)", 0, x -> x.nights(0));
            u.due("nights(31)", BAD, x -> x.nights(31));
            u.due("read", -20, x -> x.read(0, 0, 0, 1));
            u.due("read behind the end", 0, x -> x.read(0, 0, 1, 1));
            u.due("torn", 2, HauntSums::torn);
            u.due("runs", 120, x -> x.runs(60, 0));
            u.due("NIGHT", 999, x -> x.rule(2));
            u.due("keep(1)", round > 0 ? 1 : 0, x -> x.keep(1));
            u.due("back(0)", 0, x -> x.back(0));
            u.due("back(1)", 999, x -> x.back(1));
            u.due("back(0)", 0, x -> x.back(0));
            u.due("read", 1, x -> x.read(0, 0, 0, 1));
            u.due("torn", 0, HauntSums::torn);
            u.due("NIGHT", 1, x -> x.rule(2));
            u.due("back(0)", 0, x -> x.back(0));
        }
        while (u.made < CALLS) {
            u.due("keep(0)", 1, x -> x.keep(0));
        }
    }

    /** Places for ghosts, for what is seen and for images are taken and given back, over and over. */
    private static void placesAreTakenAgain() {
        Used u = new Used();
        u.due("keep(0)", 0, x -> x.keep(0));
        while (u.made < CALLS - 23) {
            for (int g = 0; g < 4; g++) {
                int due = g;
                u.due("leave", due, x -> x.leave(2, 7, 7, due));
            }
            u.due("leave", FULL, x -> x.leave(2, 7, 7, 0));
            for (int n = 1; n <= 6; n++) {
                int due = n;
                u.due("see", due, x -> x.see(3, 0, 3));
            }
            u.due("see", FULL, x -> x.see(3, 0, 3));
            u.due("kinds", 15, x -> x.kinds(3));
            u.due("forget(2)", 6, x -> x.forget(2));
            u.due("see", 3, x -> x.see(3, 0, 4));
            u.due("kinds", 0, x -> x.kinds(3));
            u.due("CREAKS", 8, x -> x.rule(5));
            u.due("learn", NONE, x -> x.learn(20, 0));
            u.due("drift", STATE, x -> x.drift(1, 1, 0));
            u.due("back(0)", 0, x -> x.back(0));
            u.due("count(0)", 0, x -> x.count(0));
            u.due("rule(0)", 0, x -> x.rule(0));
            u.due("ghost", BAD, x -> x.ghost(0, 0));
        }
        u.due("leave", 0, x -> x.leave(3, 1, 2, 5));
        while (u.made < CALLS) {
            u.due("LEFT", 1, x -> x.rule(4));
        }
    }

    /** A sheet is made anew in each lane; no cell of an older one is ever seen again. */
    private static void sheetsAreMadeAnew() {
        Used u = new Used();
        u.feedAll("clerk 4 1;clerk 4 1;");
        u.due("text", 2, HauntSums::text);
        for (int round = 0; round < 49; round++) {
            int lane = round % 3;
            int n = round % 2 == 0 ? 2 : 40;
            u.due("sheet", 1, x -> x.sheet(0, lane, n));
            u.due("read", 1, x -> x.read(0, lane, n - 2, 1));
            u.due("ROOM", 0, x -> x.clerk(0, 0));
            u.due("lay", 1, x -> x.lay(0, n - 2, 65536 + 256));
            u.due("lay", 1, x -> x.lay(0, n - 1, 4));
            u.due("lay behind", -12, x -> x.lay(0, n, 4));
            u.due("read", lane == 0 ? 1 : -20, x -> x.read(0, lane, n - 2, 20));
            u.due("torn", lane == 0 ? 2 : 0, HauntSums::torn);
            u.due("count(3)", n, x -> x.count(3));
            u.due("ROOM", lane == 0 ? 4 : 0, x -> x.clerk(0, 0));
        }
        u.due("ROOM of the other", 4, x -> x.clerk(1, 0));
        u.wasUsedUp();
    }

    public static void main(String[] args) throws IOException {
        eachCallLast();
        askedOverAndOver();
        tapeIsFilledThrice();
        nightsOneByOne();
        tillTheLastNight();
        placesAreTakenAgain();
        sheetsAreMadeAnew();
        Edge.finish();
    }
}
