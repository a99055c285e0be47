/** The bounds of what "2. THE WEEK" asks: once, best walk, candle, draughts, mended, chains shared out. */
public final class WeekEdgeTest extends Asked {
    private static final int LOUD = 2;
    private static final int DRAUGHT = 3;
    private static final int CHAINED = 4;

    private WeekEdgeTest() {
        super("WeekEdgeTest");
    }

    public static void main(String[] args) {
        WeekEdgeTest t = new WeekEdgeTest();
        t.onceOfToldSleepersAlone();
        t.onceOfToldGhostsAlone();
        t.onceNoSuchOnesAheadOfCannotBe();
        t.onceFirstAndLastWalk();
        t.onceByFewest();
        t.onceTheLeastRow();
        t.onceTheLeastRowThatGoesOn();
        t.onceByTen();
        t.onceJustOnce();
        t.onceAtMostOneWalkEach();
        t.onceWithoutChainsClaimsCats();
        t.bestWalkOfOneThatHasNone();
        t.bestWalkFirstAndLast();
        t.bestWalkOfLikeOnes();
        t.bestWalkWithoutChainsClaimsCats();
        t.candleOfToldSleepersAlone();
        t.candleJustThose();
        t.candleWithoutAChain();
        t.candleFirstAndMost();
        t.draughtsByWages();
        t.draughtsBySighs();
        t.draughtsToldAnew();
        t.mendedUpToNine();
        t.mendedOfLikeOnes();
        t.mendedOfNone();
        t.mendedBelowZero();
        t.sharedAsManyAsThereAre();
        t.sharedOneNightAndThenAnother();
        t.sharedFewestChains();
        t.sharedWhereAllAreWorse();
        t.sharedLeastGhosts();
        t.sharedWalksThatCount();
        t.sharedWithoutClaimsAndCats();
        t.due.end();
    }

    // ---- ONCE

    private void onceOfToldSleepersAlone() {
        fresh("k(1=1)");
        plainGhost(0, 0);
        is("none told", x.once(1, -1), -3);
        sleeperIn(0, 0, 3);
        sleeperIn(9, 0, 3);
        is("none of them", x.once(0, -1), -3);
        is("sleeper 0", x.once(1, -1), 1);
        is("sleeper 9", x.once(512, -1), 1);
        is("both", x.once(513, -1), 1);
        for (int bit = 1; bit < 32; bit++) {
            is("with bit " + bit, x.once(1 | 1 << bit, -1), bit == 9 ? 1 : -3);
        }
        is("all bits", x.once(-1, -1), -3);
        is("all sleepers", x.once(1023, -1), -3);
        for (int p = 1; p < 9; p++) {
            sleeperIn(p, 0, 3);
        }
        is("all sleepers told", x.once(1023, -1), 1);
        is("one more", x.once(1024, -1), -3);
        is("one more", x.once(2047, -1), -3);
    }

    private void onceOfToldGhostsAlone() {
        fresh("k(1=1)");
        sleeperIn(0, 0, 3);
        is("no ghost: it can't be", x.once(1, -1), -2);
        is("no ghost", x.once(1, 0), -3);
        plainGhost(0, 0);
        plainGhost(9, 0);
        for (int what = 0; what < 10; what++) {
            is("ghost " + what, x.once(1, what), what == 0 ? 3 : what == 9 ? 84 : -3);
        }
        for (int what : new int[] {-2, 10, 84, MIN, MAX}) {
            is("ghost " + what, x.once(1, what), -3);
        }
    }

    private void onceNoSuchOnesAheadOfCannotBe() {
        fresh("k(1=1)");
        plainGhost(0, 0);
        x.sleeper(0, 0);
        is("away: it can't be", x.once(1, -1), -2);
        is("ghost 0 neither", x.once(1, 0), -2);
        is("no such ghost ahead of that", x.once(1, 1), -3);
        is("no such ghost ahead of that", x.once(1, -2), -3);
        is("no such sleeper ahead of that", x.once(3, -1), -3);
        is("none ahead of that", x.once(0, 0), -3);
    }

    private void onceFirstAndLastWalk() {
        fresh("k(1=1)");
        plainGhost(0, 0);
        plainGhost(9, 0);
        x.sleeper(0, 0);
        x.sleeps(0, 6, 7, 11);
        is("the last of all", x.once(1, 0), 83);
        is("does not walk", x.once(1, 9), 84);
        x.sleeps(0, 6, 7, 10);
        is("a room before", x.once(1, 0), 82);
        x.sleeps(0, 5, 6, 11);
        is("the night before", x.once(1, 0), 71);
        x.sleeps(0, 1, 2, 0);
        is("night 1, room 0", x.once(1, 0), 12);
        x.sleeps(0, 0, 1, 11);
        is("night 0, room 11", x.once(1, 0), 11);
        x.sleeps(0, 0, 1, 0);
        is("the first of all", x.once(1, 0), 0);
        x.ghost(0, LOUD, 0, 0, 0);
        x.sleeps(0, 0, 7, -1);
        x.sleeps(0, 6, 7, 11);
        is("a loud one from the room before", x.once(1, 0), 82);
    }

    private void onceByFewest() {
        fresh("k(1=1)");
        plainGhost(0, 0);
        x.ghost(1, LOUD, 0, 0, 0);
        x.sleeper(0, 0);
        x.sleeper(1, 0);
        x.sleeps(0, 0, 1, 0);
        x.sleeps(0, 6, 7, 10);
        x.sleeps(1, 6, 7, 11);
        is("one can, in the last night", x.once(3, -1), 1);
        is("so 0 does not walk", x.once(3, 0), 84);
        is("1 does", x.once(3, 1), 82);
        x.ghost(1, 0, 0, 0, 0);
        is("now it takes two", x.once(3, -1), 2);
        is("0 in the first night", x.once(3, 0), 0);
        is("1 in the last one", x.once(3, 1), 83);
    }

    private void onceTheLeastRow() {
        fresh("k(1=1)");
        for (int g = 0; g < 3; g++) {
            plainGhost(g, 0);
        }
        sleeperIn(0, 0, 7);
        sleeperIn(1, 0, 4);
        is("two", x.once(3, -1), 2);
        is("0 has the lower room", x.once(3, 0), 4);
        is("1 the other one", x.once(3, 1), 7);
        is("2 does not walk", x.once(3, 2), 84);
        is("one alone: the first ghost", x.once(1, 0), 7);
        is("one alone", x.once(1, 1), 84);
        law("k(g=1|g=2)", 1);
        is("one that can't does not walk", x.once(3, 0), 84);
        is("1 has the lower room", x.once(3, 1), 4);
        is("2 the other one", x.once(3, 2), 7);
        law("k(n=3|g=2)", 1);
        is("a later night", x.once(3, 0), 40);
        is("a later night", x.once(3, 1), 43);
    }

    private void onceTheLeastRowThatGoesOn() {
        fresh("k(g=0|p=0)");
        plainGhost(0, 0);
        plainGhost(1, 0);
        sleeperIn(0, 0, 0);
        sleeperIn(1, 0, 5);
        is("two", x.once(3, -1), 2);
        is("0 leaves the lower room to 1", x.once(3, 0), 5);
        is("1 can have no other", x.once(3, 1), 0);
        is("0 has it, alone", x.once(1, 0), 0);
        law("k(g=0|g=1&p=0|g=2&p=1&n=6)", 1);
        plainGhost(2, 0);
        is("still two", x.once(3, -1), 2);
        is("0 has the lower room, and 2 the last night", x.once(3, 0), 0);
        is("1 does not walk", x.once(3, 1), 84);
        is("2 walks", x.once(3, 2), 77);
    }

    private void onceByTen() {
        fresh("k(g=9-p)");
        for (int i = 0; i < 10; i++) {
            plainGhost(i, 0);
            sleeperIn(i, 0, i);
        }
        is("ten", x.once(1023, -1), 10);
        for (int g = 0; g < 10; g++) {
            is("ghost " + g, x.once(1023, g), 9 - g);
        }
        is("nine", x.once(1022, -1), 9);
        is("ghost 9 does not walk", x.once(1022, 9), 84);
        x.sleeps(0, 0, 7, -1);
        is("ten can't be", x.once(1023, -1), -2);
        is("nine can", x.once(1022, -1), 9);
    }

    private void onceJustOnce() {
        fresh("k(!(g=0&p=2))");
        x.ghost(0, LOUD, 0, 0, 0);
        x.ghost(1, LOUD, 0, 0, 0);
        sleeperIn(0, 0, 5);
        sleeperIn(1, 0, 6);
        sleeperIn(2, 0, 6);
        // whoever frightens 2 is ghost 1, which frightens 1 with it
        is("by one", x.once(7, -1), 1);
        x.sleeps(0, 0, 7, 4);
        is("from between", x.once(7, 1), 5);
        x.sleeps(0, 0, 7, 3);
        is("0 frightens 0 alone", x.once(7, 0), 2);
        is("1 the two others", x.once(7, 1), 5);
        sleeperIn(3, 0, 5);
        law("k(g=0&p<2|g=1&p>0)", 1);
        // where 0, 1 and 2 are in one room, ghost 0 frightens 0 and 1, and ghost 1 frightens 1 again
        x.sleeps(0, 0, 7, 6);
        is("1 would be frightened twice", x.once(15, -1), -2);
        is("1 would be frightened twice", x.once(7, -1), -2);
        is("others as may be", x.once(5, -1), 2);
        is("others as may be", x.once(13, -1), 2);
    }

    private void onceAtMostOneWalkEach() {
        fresh("k(1=1)");
        plainGhost(0, 0);
        sleeperIn(0, 0, 0);
        sleeperIn(1, 0, 2);
        is("one can't be in two rooms", x.once(3, -1), -2);
        plainGhost(1, 0);
        is("two can", x.once(3, -1), 2);
        x.sleeps(1, 6, 7, 0);
        is("one can in the last night", x.once(3, -1), 1);
        is("one can in the last night", x.once(3, 0), 72);
    }

    private void onceWithoutChainsClaimsCats() {
        fresh("k(g=p);z10(1=1)");
        x.chains(9);
        plainGhost(0, 0);
        plainGhost(1, 9);
        sleeperIn(0, 0, 0);
        sleeperIn(1, 0, 0);
        x.cats(0, 9);
        rota("0@0-0+;1@0-0+", 2);
        is("two in one room", x.once(3, -1), 2);
        is("the younger one walks", x.once(3, 0), 0);
        x.ghost(0, CHAINED, 0, 0, 0);
        is("a chained one does not frighten", x.once(1, -1), -2);
        x.ghost(0, DRAUGHT, 0, 0, 0);
        is("a draught does not frighten", x.once(1, -1), -2);
        x.ghost(0, 1, 0, 0, 0);
        is("a shy one does not, in company", x.once(1, -1), -2);
        x.sleeps(1, 4, 5, 1);
        is("a shy one does, alone", x.once(1, 0), 48);
        law("k(h=1)", 1);
        is("h is 0", x.once(2, -1), -2);
    }

    // ---- BEST WALK

    private void bestWalkOfOneThatHasNone() {
        fresh("k(1=1);f5(1=1)");
        plainGhost(0, 0);
        plainGhost(9, 0);
        sleeperIn(0, 0, 2);
        rota("9@6-11;5@0-0", 2);
        is("0 has none", x.bestWalk(0, 2), 5);
        is("9 has one", x.bestWalk(9, 2), -1);
        is("5 is not told", x.bestWalk(5, 2), -1);
        plainGhost(5, 0);
        is("5 has one", x.bestWalk(5, 0), -1);
        rota(times(15, "9@6-11;") + "0@0-0", 16);
        is("0 has the last one of sixteen", x.bestWalk(0, 2), -1);
        is("5 has none now", x.bestWalk(5, 2), 5);
        rota("9@1-1;9@1-2", 2);
        is("0 has none", x.bestWalk(0, 1), 2);
        is("-1", x.bestWalk(-1, 0), -1);
        is("10", x.bestWalk(10, 0), -1);
    }

    private void bestWalkFirstAndLast() {
        fresh("k(1=1);f5(1=1)");
        plainGhost(0, 0);
        x.sleeper(0, 0);
        int[][] beds = {{6, 11}, {6, 0}, {5, 11}, {0, 11}, {0, 0}};
        for (int[] bed : beds) {
            x.sleeps(0, 0, 7, -1);
            x.sleeps(0, bed[0], bed[0] + 1, bed[1]);
            is("night", x.bestWalk(0, 0), bed[0]);
            is("room", x.bestWalk(0, 1), bed[1]);
            is("fright", x.bestWalk(0, 2), 5);
        }
    }

    private void bestWalkOfLikeOnes() {
        fresh("k(1=1);f5(1=1)");
        x.ghost(0, LOUD, 0, 0, 0);
        is("nobody: night 0", x.bestWalk(0, 0), 0);
        is("nobody: room 0", x.bestWalk(0, 1), 0);
        is("nobody: 0", x.bestWalk(0, 2), 0);
        sleeperIn(0, 0, 5);
        is("the first room that reaches it", x.bestWalk(0, 1), 4);
        x.sleeps(0, 0, 2, -1);
        is("the first night", x.bestWalk(0, 0), 2);
        x.sleeps(0, 5, 6, 1);
        is("the night ahead of the room", x.bestWalk(0, 0), 2);
        is("the night ahead of the room", x.bestWalk(0, 1), 4);
        law("k(1=1);f5(n<6);f6(1=1)", 3);
        is("more in the last night", x.bestWalk(0, 0), 6);
        is("more in the last night", x.bestWalk(0, 2), 6);
        law("k(1=1);f0(1=1)", 2);
        is("fright 0 is no more than none", x.bestWalk(0, 0), 0);
        is("fright 0 is no more than none", x.bestWalk(0, 1), 0);
        fresh("k(1=1);f99(1=1)");
        plainGhost(9, 0);
        for (int p = 0; p < 10; p++) {
            sleeperIn(p, 0, 11);
        }
        is("all ten", x.bestWalk(9, 2), 990);
        is("all ten", x.bestWalk(9, 1), 11);
    }

    private void bestWalkWithoutChainsClaimsCats() {
        fresh("k(1=1);f5+h(1=1);z10(1=1)");
        x.chains(9);
        x.cats(0, 9);
        plainGhost(0, 0);
        x.ghost(1, CHAINED, 0, 0, 0);
        plainGhost(2, 999);
        sleeperIn(0, 0, 0);
        rota("2@0-0", 1);
        is("no claim, no strike, no chain", x.bestWalk(0, 2), 5);
        is("in the same room", x.bestWalk(0, 0) + x.bestWalk(0, 1), 0);
        is("a chained one", x.bestWalk(1, 2), 0);
    }

    // ---- BY THE CANDLE

    private void candleOfToldSleepersAlone() {
        fresh("k(1=1)");
        plainGhost(0, 0);
        is("none told", x.candle(0, 1, 0), -1);
        sleeperIn(0, 0, 3);
        sleeperIn(9, 0, 4);
        is("none of them", x.candle(0, 0, 0), -1);
        is("sleeper 0", x.candle(0, 1, 0), 1);
        is("sleeper 9", x.candle(6, 512, 0), 1);
        is("both", x.candle(0, 513, 0), 0);
        is("both", x.candle(0, 513, 1), -2);
        for (int bit = 1; bit < 32; bit++) {
            is("with bit " + bit, x.candle(0, 1 | 1 << bit, 1), bit == 9 ? -2 : -1);
        }
        is("night -1", x.candle(-1, 1, 0), -1);
        is("night 7", x.candle(7, 1, 0), -1);
        is("what -1", x.candle(0, 1, -1), -1);
        is("what 4", x.candle(0, 1, 4), -1);
        is("what 3", x.candle(0, 1, 3), 1);
        is("night 7 ahead of none", x.candle(7, 513, 1), -1);
        is("what 4 ahead of none", x.candle(0, 513, 4), -1);
    }

    private void candleJustThose() {
        fresh("k(1=1)");
        plainGhost(0, 0);
        sleeperIn(0, 0, 3);
        sleeperIn(1, 0, 3);
        sleeperIn(2, 0, 4);
        int[] twos = {0, 0, 0, 1, 1, 0, 0, 0};
        for (int set = 1; set < 8; set++) {
            is("sleepers " + set, x.candle(0, set, 0), twos[set]);
            is("ghost", x.candle(0, set, 1), twos[set] == 1 ? 0 : -2);
            is("room", x.candle(0, set, 2), set == 3 ? 3 : set == 4 ? 4 : -2);
            is("ghosts", x.candle(0, set, 3), twos[set]);
        }
        x.ghost(0, LOUD, 0, 0, 0);
        int[] loud = {0, 0, 0, 1, 1, 0, 0, 2};
        for (int set = 1; set < 8; set++) {
            is("loud, sleepers " + set, x.candle(0, set, 0), loud[set]);
        }
        is("loud, from room 2", x.candle(0, 3, 2), 2);
        is("loud, from room 5", x.candle(0, 4, 2), 5);
        is("loud, from room 3", x.candle(0, 7, 2), 3);
    }

    private void candleWithoutAChain() {
        fresh("k(h=0);z10(1=1)");
        x.chains(9);
        x.ghost(0, CHAINED, 0, 0, 0);
        x.ghost(1, DRAUGHT, 0, 0, 0);
        x.ghost(2, 1, 0, 0, 0);
        sleeperIn(0, 0, 0);
        is("the shy one alone", x.candle(0, 1, 3), 4);
        sleeperIn(1, 0, 0);
        is("nobody", x.candle(0, 3, 0), 0);
        is("nobody", x.candle(0, 1, 3), 0);
        law("k(h=1)", 1);
        plainGhost(3, 0);
        is("h is 0", x.candle(0, 3, 0), 0);
    }

    private void candleFirstAndMost() {
        fresh("k(1=1)");
        sleeperIn(0, 0, 11);
        x.sleeps(0, 6, 7, 5);
        is("no ghosts", x.candle(0, 1, 0), 0);
        is("no ghosts", x.candle(0, 1, 3), 0);
        is("no ghosts", x.candle(0, 1, 1), -2);
        is("no ghosts", x.candle(0, 1, 2), -2);
        x.ghost(9, LOUD, 0, 0, 0);
        is("ghost 9", x.candle(0, 1, 1), 9);
        is("from room 10", x.candle(0, 1, 2), 10);
        is("at the end of the row", x.candle(0, 1, 0), 2);
        is("in the midst of it", x.candle(6, 1, 0), 3);
        is("ghost 9", x.candle(0, 1, 3), 512);
        for (int g = 0; g < 9; g++) {
            x.ghost(g, LOUD, 0, 0, 0);
        }
        is("ten by three", x.candle(6, 1, 0), 30);
        is("all", x.candle(6, 1, 3), 1023);
        is("ghost 0", x.candle(6, 1, 1), 0);
        is("room 4", x.candle(6, 1, 2), 4);
        x.ghost(0, 0, 0, 0, 0);
        is("the ghost ahead of the room", x.candle(6, 1, 2), 5);
        x.sleeps(0, 3, 4, 0);
        is("room 0", x.candle(3, 1, 2), 0);
        is("10 + 9", x.candle(3, 1, 0), 19);
    }

    // ---- DRAUGHTS

    private void draughtsByWages() {
        fresh("w1(g=9);w0(1=1)");
        is("nobody told", x.draughts(), 0);
        plainGhost(0, 0);
        plainGhost(9, 0);
        rota("0@0-0;9@0-1", 2);
        is("nobody has walked", x.draughts(), 0);
        x.live();
        is("a halfpenny and none", x.draughts(), 512);
        law("w0-1(1=1)", 1);
        rota("0@0-0", 1);
        x.live();
        is("paid 0", x.draughts(), 512);
        law("w1(1=1);z10(1=1)", 2);
        x.live();
        is("who strikes is not paid", x.draughts(), 512);
        law("w1(1=1)", 1);
        x.live();
        is("paid 1", x.draughts(), 513);
        for (int g = 1; g < 9; g++) {
            plainGhost(g, 0);
        }
        rota("0@0-0;1@0-1;2@0-2;3@0-3;4@0-4;5@0-5;6@0-6;7@0-7;8@0-8;9@0-9", 10);
        x.live();
        is("all of them", x.draughts(), 1023);
    }

    private void draughtsBySighs() {
        fresh("k(1=1);f0(1=1);w1(1=1)");
        plainGhost(0, 0);
        plainGhost(1, 0);
        sleeperIn(0, 0, 0);
        rota("0@0-0;1@0-1", 2);
        x.live();
        is("frightened by 0 is frightened", x.draughts(), 2);
        rota("0@0-1;1@1-1", 2);
        x.live();
        is("so far", x.draughts(), 2);
        rota("1@0-0", 1);
        x.live();
        is("none now", x.draughts(), 0);
        fresh("k(1=1);w1(1=1)");
        x.ghost(0, DRAUGHT, 0, 0, 0);
        sleeperIn(0, 0, 0);
        rota("0@0-0", 1);
        x.live();
        is("a draught", x.draughts(), 1);
    }

    private void draughtsToldAnew() {
        fresh("w1(1=1)");
        plainGhost(0, 0);
        plainGhost(1, 0);
        rota("0@0-0;1@0-1", 2);
        x.keep();
        x.live();
        is("both", x.draughts(), 3);
        plainGhost(0, 0);
        is("0 is told anew", x.draughts(), 2);
        x.undo();
        is("undone", x.draughts(), 0);
    }

    // ---- MENDED

    private void mendedUpToNine() {
        fresh("k(1=1);fm(1=1)");
        sleeperIn(0, 0, 0);
        for (int moan = 0; moan < 10; moan++) {
            x.ghost(0, 0, moan, 0, 0);
            rota("0@0-0", 1);
            is("from " + moan, x.mended(0, 0), moan == 9 ? 0 : 1);
            is("from " + moan, x.mended(0, 2), moan == 9 ? 0 : 1);
            is("asked, nothing is changed", x.count(30), moan);
            is("mend " + moan, x.mend(0), moan == 9 ? -1 : moan + 1);
            is("mended", x.count(30), Math.min(9, moan + 1));
        }
        law("k(1=1);f50(m>9);f1(1=1)", 3);
        is("never ten", x.mended(0, 0), 0);
        is("never ten", x.week(0), 1);
    }

    private void mendedOfLikeOnes() {
        fresh("k(1=1);fm(1=1)");
        sleeperIn(0, 0, 0);
        for (int g = 0; g < 10; g++) {
            x.ghost(g, 0, 5, 0, 0);
        }
        is("no walks: the lowest", x.mended(0, 1), 0);
        is("no walks", x.mended(0, 2), 0);
        rota("9@1-0;8@0-0;7@2-0", 3);
        is("the lowest of three", x.mended(0, 1), 7);
        is("by one", x.mended(0, 2), 1);
        x.ghost(7, 0, 9, 0, 0);
        is("the lowest of two", x.mended(0, 1), 8);
        x.ghost(8, 0, 9, 0, 0);
        is("the last one", x.mended(0, 1), 9);
        x.ghost(9, 0, 9, 0, 0);
        is("none: the lowest of all", x.mended(0, 1), 0);
        is("none", x.mended(0, 2), 0);
        for (int g : new int[] {-1, 10, MIN, MAX}) {
            is("g is not looked at: " + g, x.mended(g, 1), 0);
            is("g is not looked at: " + g, x.mended(g, 2), 0);
            is("g is looked at: " + g, x.mended(g, 0), -100000);
        }
    }

    private void mendedOfNone() {
        fresh();
        for (int what = -1; what < 4; what++) {
            is("none told, what " + what, x.mended(0, what), -100000);
        }
        plainGhost(9, 0);
        int[] want = {-100000, -100000, 9, 0, -100000};
        int[] of9 = {-100000, 0, 9, 0, -100000};
        for (int what = -1; what < 4; what++) {
            is("0 is not told, what " + what, x.mended(0, what), want[what + 1]);
            is("9, what " + what, x.mended(9, what), of9[what + 1]);
        }
    }

    private void mendedBelowZero() {
        fresh("k(1=1);f99-99*m(1=1)");
        x.ghost(3, 0, 0, 0, 0);
        x.ghost(4, 0, 0, 0, 0);
        for (int p = 0; p < 10; p++) {
            sleeperIn(p, 0, 0);
        }
        rota("3@0-0;3@1-0;3@2-0;3@3-0;3@4-0;3@5-0;3@6-0", 7);
        is("all is lost", x.mended(3, 0), -6930);
        is("4 is no worse", x.mended(3, 1), 4);
        is("4 is no worse", x.mended(3, 2), 0);
        fresh("k(1=1);f99-99*m(1=1)");
        x.ghost(3, 0, 0, 0, 0);
        sleeperIn(0, 0, 0);
        rota("3@0-0", 1);
        is("one alone is the best", x.mended(0, 1), 3);
        is("one alone, though below 0", x.mended(0, 2), -99);
    }

    // ---- CHAINS SHARED OUT

    private void sharedAsManyAsThereAre() {
        fresh("k(1=1);f1+g*h(1=1)");
        StringBuilder all = new StringBuilder();
        for (int i = 0; i < 10; i++) {
            plainGhost(i, 0);
            sleeperIn(i, 0, i);
            all.append(i == 0 ? "" : ";").append(i).append("@6-").append(i);
        }
        rota(all.toString(), 10);
        int ghosts = 0;
        int fright = 10;
        for (int chains = 0; chains < 10; chains++) {
            x.chains(chains);
            is(chains + " chains, ghosts", x.shared(6, 0), ghosts);
            is(chains + " chains, fright", x.shared(6, 1), fright);
            ghosts |= 1 << 9 - chains;
            fright += 9 - chains;
        }
        is("another night, ghosts", x.shared(0, 0), 0);
        is("another night, fright", x.shared(0, 1), 0);
        x.chains(9);
        law("k(1=1);f1+h(1=1)", 2);
        is("nine of ten", x.shared(6, 0), 511);
        is("nine of ten", x.shared(6, 1), 19);
    }

    private void sharedOneNightAndThenAnother() {
        fresh("k(1=1);f1+g*h(1=1)");
        x.chains(1);
        for (int g = 0; g < 4; g++) {
            plainGhost(g, 9);
            sleeperIn(g, 0, g);
        }
        rota("1@0-1;2@0-2;3@0-3;1@1-1;0@2-0", 5);
        is("the best of three", x.shared(0, 0), 8);
        is("one walks", x.shared(1, 0), 2);
        is("one walks", x.shared(1, 1), 2);
        is("worth nothing", x.shared(2, 0), 0);
        is("nobody walks", x.shared(3, 0), 0);
        is("nobody walks", x.shared(3, 1), 0);
        is("nights off", x.off(4, 8, 2), 2);
        is("nobody walks, as before", x.shared(3, 0), 0);
        is("nobody walks, as before", x.shared(3, 1), 0);
        is("nights off, as before", x.off(4, 8, 2), 2);
    }

    private void sharedWhereAllAreWorse() {
        fresh("k(1=1);f90-80*h-g*h(1=1)");
        x.chains(9);
        StringBuilder all = new StringBuilder();
        for (int i = 0; i < 10; i++) {
            plainGhost(i, 0);
            sleeperIn(i, 0, i);
            all.append(i == 0 ? "" : ";").append(i).append("@3-").append(i);
        }
        rota(all.toString(), 10);
        is("nobody has one", x.shared(3, 0), 0);
        is("fright", x.shared(3, 1), 900);
    }

    private void sharedFewestChains() {
        fresh("k(1=1);f5+h(g=1);f5-h(g=2);f5(1=1)");
        x.chains(9);
        for (int g = 0; g < 4; g++) {
            plainGhost(g, 0);
            sleeperIn(g, 0, g);
        }
        rota("0@0-0+;1@0-1+;2@0-2+;3@0-3+", 4);
        is("only where it is worth something", x.shared(0, 0), 2);
        is("fright", x.shared(0, 1), 21);
        law("k(1=1);f5-h(1=1)", 2);
        is("worth less than nothing", x.shared(0, 0), 0);
        is("fright", x.shared(0, 1), 20);
        law("k(1=1);f5(1=1)", 2);
        is("worth nothing", x.shared(0, 0), 0);
        law("k(1=1);f100+h(1=1)", 2);
        is("worth nothing at the bound", x.shared(0, 0), 0);
        is("fright", x.shared(0, 1), 396);
        law("k(1=1);f98+h(1=1)", 2);
        is("worth one below it", x.shared(0, 0), 15);
        is("fright", x.shared(0, 1), 396);
    }

    private void sharedLeastGhosts() {
        fresh("k(1=1);f5+h(1=1)");
        for (int g = 0; g < 10; g += 3) {
            plainGhost(g, 0);
            sleeperIn(g, 0, g);
        }
        rota("9@0-9;6@0-6;3@0-3;0@0-0", 4);
        int[] ghosts = {0, 1, 9, 73, 585, 585};
        for (int chains = 0; chains < 6; chains++) {
            x.chains(chains);
            is(chains + " chains", x.shared(0, 0), ghosts[chains]);
            is(chains + " chains", x.shared(0, 1), 20 + Math.min(4, chains));
        }
        law("k(1=1);f5+2*h(g>5);f5+h(1=1)", 3);
        int[] greater = {0, 64, 576, 577, 585, 585};
        for (int chains = 0; chains < 6; chains++) {
            x.chains(chains);
            is(chains + " chains", x.shared(0, 0), greater[chains]);
        }
    }

    private void sharedWalksThatCount() {
        fresh("k(1=1);f5+h(1=1)");
        x.chains(1);
        plainGhost(1, 0);
        sleeperIn(0, 0, 0);
        sleeperIn(1, 0, 1);
        sleeperIn(2, 0, 1);
        rota("0@0-1;1@0-0;1@0-1;1@1-1", 4);
        is("0 is not told", x.shared(0, 0), 2);
        is("the first walk alone", x.shared(0, 1), 6);
        is("night 1", x.shared(1, 1), 12);
        is("night 6", x.shared(6, 1), 0);
        is("night -1", x.shared(-1, 1), -1);
        is("night 7", x.shared(7, 1), -1);
        is("what -1", x.shared(0, -1), -1);
        is("what 2", x.shared(0, 2), -1);
        x.ghost(1, CHAINED, 0, 0, 0);
        is("a chained one", x.shared(0, 1), 6);
        x.chains(0);
        is("a chained one without", x.shared(0, 1), 0);
        is("a chained one without", x.shared(0, 0), 0);
        x.chains(1);
        x.ghost(1, DRAUGHT, 0, 0, 0);
        is("a draught", x.shared(0, 0), 0);
        is("a draught", x.shared(0, 1), 0);
        law("k(1=1);f0(1=1)", 2);
        x.ghost(1, CHAINED, 0, 0, 0);
        is("fright by 0 is worth no chain", x.shared(0, 0), 0);
    }

    private void sharedWithoutClaimsAndCats() {
        fresh("k(1=1);f5+h(1=1);z10(1=1)");
        x.chains(2);
        plainGhost(0, 0);
        plainGhost(1, 999);
        sleeperIn(0, 0, 0);
        rota("0@0-0;1@0-0", 2);
        is("both walk", x.shared(0, 1), 12);
        is("both have one", x.shared(0, 0), 3);
        is("nothing is changed", x.count(3), 1);
        is("in the week they strike or stand", x.week(0), 0);
    }
}
