/**
 * Promises 2 to 31, for each number that a call is given: the last that is taken and the first that is refused, on
 * both sides. A call that is refused, and one that only asks, leaves its house as a twin that was not called.
 */
public final class RefusalTest extends Asked {
    private static final int NOT_TOLD_GHOST = 5;
    private static final int NOT_TOLD_SLEEPER = 6;
    private static final int ALL_TOLD_SLEEPERS = 1023 - 64;
    private static final int FULLY_MOANING_GHOST = 4;
    private static final String TAPE = "7@6-11+;8@5-0;1@1-1;xxxxxxxxxxxxxxxxxxxx";

    private interface Call {
        int on(GhostRota house, int[] with);
    }

    private RefusalTest() {
        super("RefusalTest");
    }

    public static void main(String[] args) {
        RefusalTest t = new RefusalTest();
        t.tellingTheHouse();
        t.tellingSleepersAndGhosts();
        t.theTape();
        t.faultsEmptyTheTapeAlone();
        t.walk();
        t.fright();
        t.week();
        t.soFar();
        t.once();
        t.bestWalk();
        t.candle();
        t.mended();
        t.mend();
        t.shared();
        t.july();
        t.off();
        t.bids();
        t.odds();
        t.seed();
        t.undo();
        t.check();
        t.count();
        t.withoutNumbers();
        t.housesHaveNothingInCommon();
        t.due.end();
    }

    // ---- houses and twins

    /** A house with something in every corner, kept once and gone on from there. */
    private static GhostRota furnished() {
        GhostRota house = new GhostRota();
        Texts.law(house, "k(v<9);f1+m+v+t+h+c%3(1=1);wy%50+1(1=1);z1(t=9);q20+r*l-c(1=1)");
        Texts.rota(house, "0@0-0+;1@0-1;0@2-3;2@6-11+;5@1-1;1@0-4;0@5-0;1@5-5;2@5-6;7@5-7;8@5-8");
        for (int i = 0; i < 10; i++) {
            if (i != NOT_TOLD_GHOST) {
                house.ghost(i, i % 5, i == FULLY_MOANING_GHOST ? 9 : i == 9 ? 8 : i, 9 - i, 100 * i + 99);
            }
            if (i != NOT_TOLD_SLEEPER) {
                house.sleeper(i, i);
                house.sleeps(i, i % 3, 7, i % 4);
            }
        }
        house.cats(1, 9);
        house.cats(11, 2);
        house.chains(1);
        house.live();
        house.keep();
        house.chains(2);
        house.allSouls(6);
        house.cats(0, 3);
        house.live();
        Texts.feed(house, TAPE);
        return house;
    }

    /** What of a house can be asked for, all along. */
    private static int[] looks(GhostRota house, boolean walks) {
        int[] seen = new int[400];
        int at = 0;
        for (int what = 0; what < 170; what++) {
            seen[at++] = what < 60 || what >= 100 ? house.count(what) : 0;
        }
        for (int what = 0; what < 40; what++) {
            seen[at++] = house.soFar(what);
        }
        for (int what = 0; what < (walks ? 47 : 5); what++) {
            seen[at++] = house.week(what);
        }
        for (int i = 0; walks && i < 55; i++) {
            seen[at++] = house.walk(i / 5, i % 5);
        }
        seen[at++] = house.july(3, -1);
        return seen;
    }

    private void alike(String call, GhostRota one, GhostRota other) {
        int[] first = looks(one, true);
        int[] second = looks(other, true);
        int apart = 0;
        for (int i = 0; i < first.length; i++) {
            apart += first[i] == second[i] ? 0 : 1;
        }
        is(call + " leaves all as it was", apart, 0);
        is(call + " leaves what was kept", one.undo() ? 1 : 0, other.undo() ? 1 : 0);
        first = looks(one, false);
        second = looks(other, false);
        for (int i = 0; i < first.length; i++) {
            apart += first[i] == second[i] ? 0 : 1;
        }
        is(call + " leaves all that was kept", apart, 0);
        // the tape's text, if it is there still: what stands at its beginning, and how long it is
        is(call + " leaves the tape", one.rota(13), other.rota(13));
        for (int what = 0; what < 4; what++) {
            is(call + " leaves the tape", one.walk(1, what), other.walk(1, what));
        }
    }

    private static String told(String name, int[] with) {
        StringBuilder b = new StringBuilder(name);
        for (int i = 0; i < with.length; i++) {
            b.append(i == 0 ? "(" : ", ").append(with[i]);
        }
        return b.append(")").toString();
    }

    private void refused(String name, int refusal, Call call, int... with) {
        GhostRota house = furnished();
        is(told(name, with), call.on(house, with), refusal);
        alike(told(name, with), house, furnished());
    }

    private void asked(String name, int refusal, Call call, int... with) {
        GhostRota house = furnished();
        no(told(name, with) + " is refused", call.on(house, with) == refusal);
        alike(told(name, with), house, furnished());
    }

    private void taken(String name, int refusal, Call call, int... with) {
        no(told(name, with) + " is refused", call.on(furnished(), with) == refusal);
    }

    private static int[] with(int[] plain, int place, int value) {
        int[] v = plain.clone();
        v[place] = value;
        return v;
    }

    /** At one place of a call that is taken, all these are taken, and those refused, as are the least and the greatest int. */
    private void bounds(String name, int refusal, Call call, int[] plain, int place, int[] taken, int[] refused) {
        for (int value : taken) {
            taken(name, refusal, call, with(plain, place, value));
        }
        for (int value : refused) {
            refused(name, refusal, call, with(plain, place, value));
        }
        refused(name, refusal, call, with(plain, place, MIN));
        refused(name, refusal, call, with(plain, place, MAX));
    }

    /** The same for a call that only asks. */
    private void edges(String name, int refusal, Call call, int[] plain, int place, int[] taken, int[] refused) {
        bounds(name, refusal, call, plain, place, taken, refused);
        for (int value : taken) {
            asked(name, refusal, call, with(plain, place, value));
        }
    }

    private static int[] of(int... values) {
        return values;
    }

    private static int one(boolean b) {
        return b ? 1 : 0;
    }

    // ---- the promises

    private void tellingTheHouse() {
        Call cats = (h, w) -> one(h.cats(w[0], w[1]));
        bounds("cats", 0, cats, of(3, 4), 0, of(0, 11), of(-1, 12));
        bounds("cats", 0, cats, of(3, 4), 1, of(0, 9), of(-1, 10));
        bounds("allSouls", 0, (h, w) -> one(h.allSouls(w[0])), of(3), 0, of(-1, 0, 6), of(-2, 7));
        bounds("chains", 0, (h, w) -> one(h.chains(w[0])), of(3), 0, of(0, 9), of(-1, 10));
    }

    private void tellingSleepersAndGhosts() {
        Call sleeper = (h, w) -> one(h.sleeper(w[0], w[1]));
        bounds("sleeper", 0, sleeper, of(3, 4), 0, of(0, 9, NOT_TOLD_SLEEPER), of(-1, 10));
        bounds("sleeper", 0, sleeper, of(3, 4), 1, of(0, 9), of(-1, 10));
        Call sleeps = (h, w) -> one(h.sleeps(w[0], w[1], w[2], w[3]));
        bounds("sleeps", 0, sleeps, of(0, 2, 4, 3), 0, of(0, 9), of(-1, 10, NOT_TOLD_SLEEPER));
        bounds("sleeps", 0, sleeps, of(0, 2, 4, 3), 1, of(0, 3), of(-1, 4, 5));
        bounds("sleeps", 0, sleeps, of(0, 2, 4, 3), 2, of(3, 7), of(8, 2, 1));
        bounds("sleeps", 0, sleeps, of(0, 0, 7, 3), 3, of(-1, 0, 11), of(-2, 12, 255));
        refused("sleeps", 0, sleeps, 0, 0, 0, 3);
        refused("sleeps", 0, sleeps, 0, 7, 7, 3);
        refused("sleeps", 0, sleeps, 0, 7, 8, 3);
        taken("sleeps", 0, sleeps, 0, 6, 7, 3);
        taken("sleeps", 0, sleeps, 0, 0, 1, 3);
        Call ghost = (h, w) -> one(h.ghost(w[0], w[1], w[2], w[3], w[4]));
        bounds("ghost", 0, ghost, of(1, 2, 3, 4, 5), 0, of(0, 9, NOT_TOLD_GHOST), of(-1, 10));
        bounds("ghost", 0, ghost, of(1, 2, 3, 4, 5), 1, of(0, 4), of(-1, 5));
        bounds("ghost", 0, ghost, of(1, 2, 3, 4, 5), 2, of(0, 9), of(-1, 10));
        bounds("ghost", 0, ghost, of(1, 2, 3, 4, 5), 3, of(0, 9), of(-1, 10));
        bounds("ghost", 0, ghost, of(1, 2, 3, 4, 5), 4, of(0, 999), of(-1, 1000));
    }

    private void theTape() {
        Call rota = (h, w) -> h.rota(w[0]);
        Call law = (h, w) -> h.law(w[0]);
        bounds("rota", -1, rota, of(3), 0, of(1, 40), of(0, -1, 41, 160, 161, 220));
        bounds("law", -1, law, of(3), 0, of(1, 40), of(0, -1, 41, 200, 201, 220));
        fresh();
        for (int feeds = 1; feeds <= 11; feeds++) {
            is("feed " + feeds, x.feed(MAX, MIN, -1, 0, 1), 20 * feeds);
        }
        is("one more", x.feed(0, 0, 0, 0, 0), -1);
        is("the tape stays", x.count(2), 220);
        is("one more", x.feed(0, 0, 0, 0, 0), -1);
        is("its bytes stay", x.check(1), 0);
        is("empty then", x.count(2), 0);
        is("room again", x.feed(0, 0, 0, 0, 0), 20);
        fresh();
        x.feed('1' << 24 | '@' << 16 | '2' << 8 | '-', '3' << 24, 0, 0, 0);
        for (int feeds = 2; feeds <= 11; feeds++) {
            x.feed(0, 0, 0, 0, 0);
        }
        is("one more", x.feed('9' << 24 | '@' << 16 | '2' << 8 | '-', '3' << 24, 0, 0, 0), -1);
        is("the first ones stay", x.rota(5), 1);
        is("the first ones stay", x.walk(0, 0), 1);
    }

    /** A twin whose tape is emptied otherwise is left the same. */
    private void faultsEmptyTheTapeAlone() {
        int[] fed = {14, 20, 40};
        for (int n : fed) {
            GhostRota house = furnished();
            GhostRota twin = furnished();
            yes("a fault", house.rota(n) <= -1000);
            is("emptied", twin.check(0), -1);
            alike("a fault of the first " + n, house, twin);
            house = furnished();
            twin = furnished();
            yes("a fault", house.law(n) <= -1000);
            is("emptied", twin.check(0), -1);
            alike("a fault of the first " + n, house, twin);
        }
        GhostRota house = furnished();
        GhostRota twin = furnished();
        is("not so", house.check(10), 0);
        is("emptied", twin.check(0), -1);
        alike("a check", house, twin);
    }

    private void walk() {
        Call walk = (h, w) -> h.walk(w[0], w[1]);
        edges("walk", -1, walk, of(1, 2), 0, of(0, 10), of(-1, 11, 15, 16));
        edges("walk", -1, walk, of(1, 2), 1, of(0, 4), of(-1, 5));
    }

    private void fright() {
        Call fright = (h, w) -> h.fright(w[0], w[1], w[2], w[3], w[4]);
        int[] plain = {0, 0, 3, 0, 0};
        edges("fright", -1, fright, plain, 0, of(0, 9), of(-1, 10, NOT_TOLD_GHOST));
        edges("fright", -1, fright, plain, 1, of(0, 9), of(-1, 10, NOT_TOLD_SLEEPER));
        edges("fright", -1, fright, plain, 2, of(0, 6), of(-1, 7));
        edges("fright", -1, fright, plain, 3, of(0, 11), of(-1, 12, 255));
        edges("fright", -1, fright, plain, 4, of(0, 1), of(-1, 2));
        refused("fright", -2, fright, 0, 0, 3, 1, 0);
        asked("fright", -2, fright, 0, 0, 3, 0, 0);
    }

    private void week() {
        Call week = (h, w) -> h.week(w[0]);
        edges("week", -1, week, of(0), 0, of(0, 4, 10, 15, 17, 19, 20, 24, 26, 29, 30, 34, 36, 39, 40, 46),
            of(-1, 5, 6, 9, 10 + NOT_TOLD_SLEEPER, 20 + NOT_TOLD_GHOST, 30 + NOT_TOLD_GHOST, 47, 50));
    }

    private void soFar() {
        Call soFar = (h, w) -> h.soFar(w[0]);
        edges("soFar", -1, soFar, of(0), 0, of(0, 4, 5, 10, 15, 17, 19, 20, 24, 26, 29, 30, 34, 36, 39),
            of(-1, 6, 9, 10 + NOT_TOLD_SLEEPER, 20 + NOT_TOLD_GHOST, 30 + NOT_TOLD_GHOST, 40, 46, 47));
    }

    private void once() {
        Call once = (h, w) -> h.once(w[0], w[1]);
        edges("once", -3, once, of(1, -1), 0, of(1, 512, ALL_TOLD_SLEEPERS),
            of(0, 1 << NOT_TOLD_SLEEPER, 1 | 1 << NOT_TOLD_SLEEPER, 1023, 1024, 1025, -1));
        edges("once", -3, once, of(1, -1), 1, of(-1, 0, 9), of(-2, 10, NOT_TOLD_GHOST));
        // no k holds for sleeper 9
        refused("once", -2, once, 512, -1);
        refused("once", -2, once, 513, 0);
        asked("once", -2, once, 256, -1);
    }

    private void bestWalk() {
        Call bestWalk = (h, w) -> h.bestWalk(w[0], w[1]);
        // 0, 1, 2, 7 and 8 have one
        edges("bestWalk", -1, bestWalk, of(3, 0), 0, of(3, 9), of(-1, 10, NOT_TOLD_GHOST, 0, 2, 7, 8));
        edges("bestWalk", -1, bestWalk, of(3, 0), 1, of(0, 2), of(-1, 3));
    }

    private void candle() {
        Call candle = (h, w) -> h.candle(w[0], w[1], w[2]);
        edges("candle", -1, candle, of(3, 1, 0), 0, of(0, 6), of(-1, 7));
        edges("candle", -1, candle, of(3, 1, 0), 1, of(1, 512, ALL_TOLD_SLEEPERS),
            of(0, 1 << NOT_TOLD_SLEEPER, 1 | 1 << NOT_TOLD_SLEEPER, 1023, 1024, 1025, -1));
        edges("candle", -1, candle, of(3, 1, 0), 2, of(0, 3), of(-1, 4));
        refused("candle", -2, candle, 3, 512, 1);
        refused("candle", -2, candle, 3, ALL_TOLD_SLEEPERS, 2);
        asked("candle", -2, candle, 3, 512, 0);
    }

    private void mended() {
        Call mended = (h, w) -> h.mended(w[0], w[1]);
        edges("mended", -100000, mended, of(0, 0), 0, of(0, 9, FULLY_MOANING_GHOST), of(-1, 10, NOT_TOLD_GHOST));
        edges("mended", -100000, mended, of(0, 0), 1, of(0, 1, 2), of(-1, 3));
        for (int g : new int[] {-1, 10, NOT_TOLD_GHOST, MIN, MAX}) {
            asked("mended", -100000, mended, g, 1);
            asked("mended", -100000, mended, g, 2);
        }
    }

    private void mend() {
        bounds("mend", -1, (h, w) -> h.mend(w[0]), of(0), 0, of(0, 9), of(-1, 10, NOT_TOLD_GHOST, FULLY_MOANING_GHOST));
        GhostRota house = furnished();
        is("mend(9)", house.mend(9), 9);
        is("mend(9)", house.mend(9), -1);
        is("mend(8)", house.mend(8), 9);
        is("mend(7)", house.mend(7), 8);
    }

    private void shared() {
        Call shared = (h, w) -> h.shared(w[0], w[1]);
        edges("shared", -1, shared, of(0, 0), 0, of(0, 6), of(-1, 7));
        edges("shared", -1, shared, of(0, 0), 1, of(0, 1), of(-1, 2));
    }

    private void july() {
        Call july = (h, w) -> h.july(w[0], w[1]);
        edges("july", -1, july, of(1, -1), 0, of(1, 8), of(0, 9));
        edges("july", -2, july, of(8, 0), 1, of(-1, 0, 7), of(-2, 8, 12));
        edges("july", -2, july, of(1, 0), 1, of(-1, 0), of(-2, 1));
    }

    private void off() {
        Call off = (h, w) -> h.off(w[0], w[1], w[2]);
        edges("off", -1, off, of(9, 7, 0), 0, of(1, 9), of(0, 10));
        edges("off", -1, off, of(9, 7, 0), 1, of(1, 366), of(0, 367));
        edges("off", -1, off, of(9, 7, 0), 2, of(0, 9), of(-1, 10, NOT_TOLD_GHOST));
        refused("off", -2, off, 1, 7, 1);
        asked("off", -2, off, 2, 7, 1);
        // 5 is not told, so that 6 is the sixth of those that are
        refused("off", -2, off, 5, 7, 6);
        asked("off", -2, off, 6, 7, 6);
        refused("off", -2, off, 8, 7, 9);
        asked("off", -2, off, 9, 7, 9);
    }

    private void bids() {
        Call bids = (h, w) -> h.bids(w[0], w[1], w[2]);
        edges("bids", -1, bids, of(5, 5, 0), 0, of(0, 20), of(-1, 21));
        edges("bids", -1, bids, of(5, 5, 0), 1, of(0, 20), of(-1, 21));
        edges("bids", -1, bids, of(5, 5, 0), 2, of(0, 2), of(-1, 3));
    }

    private void odds() {
        Call odds = (h, w) -> h.odds(w[0], w[1], w[2]);
        edges("odds", -1, odds, of(0, 0, 0), 0, of(0, 6), of(-1, 7));
        edges("odds", -1, odds, of(0, 0, 0), 1, of(0, 9), of(-1, 10, NOT_TOLD_SLEEPER));
        edges("odds", -1, odds, of(0, 0, 0), 2, of(0, 1), of(-1, 2));
        refused("odds", -2, odds, 5, 0, 0);
        refused("odds", -2, odds, 5, 9, 1);
        asked("odds", -2, odds, 4, 0, 0);
    }

    private void seed() {
        bounds("seed", 0, (h, w) -> one(h.seed(w[0])), of(7), 0, of(0, 65535), of(-1, 65536));
        for (int seed : new int[] {0, 65535}) {
            GhostRota house = furnished();
            house.seed(seed);
            is("X", house.count(3), seed);
        }
    }

    private void undo() {
        GhostRota house = new GhostRota();
        GhostRota twin = new GhostRota();
        no("nothing is kept", house.undo());
        alike("undo with nothing kept", house, twin);
        no("nothing is kept", house.undo());
    }

    private void check() {
        Call check = (h, w) -> h.check(w[0]);
        bounds("check", -2, check, of(1), 0, of(0, 10), of(-1, 11, 1 << 30, MIN >> 1));
        GhostRota house = new GhostRota();
        house.feed(0, 0, 0, 0, 0);
        is("6 of 5", house.check(6), -2);
        is("10 of 5", house.check(10), -2);
        is("the tape stays", house.count(2), 20);
        is("5 of 5", house.check(5), -1);
    }

    private void count() {
        Call count = (h, w) -> h.count(w[0]);
        edges("count", -1, count, of(0), 0, of(0, 7, 10, 21, 30, 39, 40, 49, 50, 59, 100, 109, 110, 160, 169),
            of(-1, 8, 9, 22, 29, 60, 99, 170, 30 + NOT_TOLD_GHOST, 40 + NOT_TOLD_GHOST, 50 + NOT_TOLD_GHOST,
                100 + NOT_TOLD_SLEEPER, 160 + NOT_TOLD_SLEEPER));
        GhostRota house = fullyTold();
        for (int what = -200; what <= 300; what++) {
            house = what % 100 == 0 ? fullyTold() : house;
            boolean known = what >= 0 && what <= 7 || what >= 10 && what <= 21 || what >= 30 && what <= 59 || what >= 100 && what <= 169;
            is("count(" + what + ") is known", house.count(what) == -1 ? 0 : 1, known ? 1 : 0);
        }
        is("no all souls", new GhostRota().count(5), -1);
    }

    private static GhostRota fullyTold() {
        GhostRota house = new GhostRota();
        for (int i = 0; i < 10; i++) {
            house.ghost(i, 0, 0, 0, 0);
            house.sleeper(i, 0);
        }
        house.allSouls(0);
        return house;
    }

    private void housesHaveNothingInCommon() {
        GhostRota house = furnished();
        GhostRota other = furnished();
        for (int i = 0; i < 10; i++) {
            other.ghost(i, 3, 9, 9, 999);
            other.sleeper(i, 9);
            other.cats(i, 9);
        }
        other.chains(9);
        other.allSouls(-1);
        other.live();
        other.keep();
        other.check(10);
        Texts.rota(other, "9@6-11+;9@5-11");
        Texts.law(other, "w999(1=1);q999(1=1)");
        other.live();
        other.once(1023, -1);
        other.off(10, 366, 3);
        other.shared(6, 0);
        other.july(8, -1);
        other.seed(65535);
        new GhostRota().feed(MAX, MAX, MAX, MAX, MAX);
        alike("another house", house, furnished());
        house = furnished();
        other = furnished();
        other.check(0);
        Texts.feed(other, "xxxxxxxxxxxxxxxxxxxx");
        is("its tape is its own", house.rota(13), 2);
        is("its tape is its own", house.walk(1, 0), 8);
        is("its tape is its own", other.rota(13), -1000);
        GhostRota empty = new GhostRota();
        is("a new one has no rota", empty.count(0), 0);
        is("a new one has no law", empty.count(1), 0);
        is("a new one has no tape", empty.count(2), 0);
        is("a new one has X 1", empty.count(3), 1);
        no("a new one has kept nothing", empty.undo());
    }

    /** Those that are given no number, and only ask. */
    private void withoutNumbers() {
        GhostRota house = furnished();
        yes("draughts", house.draughts() >= 0);
        alike("draughts", house, furnished());
        house = furnished();
        GhostRota twin = furnished();
        is("keep", house.keep(), 2);
        is("keep", twin.keep(), 2);
        is("keep", house.keep(), 2);
        alike("keep twice", house, twin);
    }
}
