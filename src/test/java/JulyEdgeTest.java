/** The bounds of what "3. JULY" asks: july, nights off, bids, odds, kept and undone, check; which answer comes first. */
public final class JulyEdgeTest extends Asked {
    private static final int LOUD = 2;
    private static final int CHAINED = 4;

    private JulyEdgeTest() {
        super("JulyEdgeTest");
    }

    public static void main(String[] args) {
        JulyEdgeTest t = new JulyEdgeTest();
        t.julyOfOneToEight();
        t.julySuchLodgers();
        t.julyTheLeastRow();
        t.julyNoTwoInOneRoom();
        t.julyColdOfARoom();
        t.offOneTo366Nights();
        t.offOneToAllGhosts();
        t.offAsFractions();
        t.offOfLikeOnes();
        t.bidsByWorths();
        t.bidsFromOneToNine();
        t.bidsThatAreAlike();
        t.oddsOfFourWalks();
        t.oddsOfFive();
        t.oddsAtTheirEnds();
        t.oddsWithoutACommonDivisor();
        t.oddsByChains();
        t.undoneWithNothingKept();
        t.keptAtOnce();
        t.keptLast();
        t.keptAllOfIt();
        t.notKept();
        t.checkNoneToTen();
        t.checkOfNoMoreThanIsFed();
        t.checkTheFirstThatIsNotSo();
        t.checkOfFourBytes();
        t.noneAheadOfAFault();
        t.noneAheadOfMinusTwo();
        t.due.end();
    }

    // ---- JULY

    private void julyOfOneToEight() {
        fresh("q1(1=1)");
        for (int n = 1; n <= 8; n++) {
            is("july " + n, x.july(n, -1), n);
            is("the last lodger", x.july(n, n - 1), n - 1);
            is("none behind it", x.july(n, n), -2);
        }
        for (int n : new int[] {0, 9, -1, MIN, MAX}) {
            is("july " + n, x.july(n, -1), -1);
            is("july " + n, x.july(n, 0), -1);
            is("no such n ahead of no such lodger", x.july(n, -2), -1);
            is("no such n ahead of no such lodger", x.july(n, 99), -1);
        }
    }

    private void julySuchLodgers() {
        fresh();
        is("all together", x.july(1, -1), 0);
        is("lodger 0", x.july(1, 0), 0);
        is("lodger 7", x.july(8, 7), 7);
        for (int what : new int[] {-2, 8, 9, 12, 255, MIN, MAX}) {
            is("lodger " + what, x.july(8, what), -2);
        }
        is("lodger 1 of one", x.july(1, 1), -2);
    }

    private void julyTheLeastRow() {
        fresh();
        for (int l = 0; l < 8; l++) {
            is("worth nothing: a room all the same", x.july(8, l), l);
        }
        law("q0-5(1=1)", 1);
        is("below 0 is 0: a room all the same", x.july(8, 7), 7);
        law("q5(r=11)", 1);
        is("one room for all", x.july(8, -1), 5);
        is("it is the last one's", x.july(8, 7), 11);
        is("the others have the least", x.july(8, 0), 0);
        is("the others have the least", x.july(8, 6), 6);
        law("q5(r=0)", 1);
        is("the first room is the first one's", x.july(8, 0), 0);
        is("the first room is the first one's", x.july(8, 7), 7);
        law("q5(l=7&r=0)", 1);
        is("it is left to the one", x.july(8, 0), 1);
        is("it is left to the one", x.july(8, 7), 0);
    }

    private void julyNoTwoInOneRoom() {
        fresh("qr*10+l(1=1)");
        is("one", x.july(1, 0), 11);
        is("two", x.july(2, -1), 110 + 101);
        is("two", x.july(2, 0), 10);
        is("two", x.july(2, 1), 11);
        is("eight", x.july(8, -1), 10 * (4 + 5 + 6 + 7 + 8 + 9 + 10 + 11) + 28);
        for (int l = 0; l < 8; l++) {
            is("eight", x.july(8, l), l + 4);
        }
        law("qr*l(1=1)", 1);
        is("lodger 0 has the least", x.july(8, 0), 0);
        is("lodger 7 has the last", x.july(8, 7), 11);
        is("lodger 1", x.july(8, 1), 5);
    }

    private void julyColdOfARoom() {
        fresh("qc(r=11)");
        for (int g = 0; g < 10; g++) {
            x.ghost(g, g % 5, 0, 9, 0);
        }
        is("no walks", x.july(1, -1), 0);
        StringBuilder all = new StringBuilder();
        for (int g = 0; g < 10; g++) {
            all.append(g == 0 ? "" : ";").append(g).append("@6-11");
        }
        rota(all.toString(), 10);
        is("all ten, who stands too", x.july(1, -1), 90);
        is("all ten", x.july(1, 0), 11);
        rota("0@6-11;0@5-11;0@6-11", 3);
        is("one is cold but once", x.july(1, -1), 9);
        rota("9@0-11;8@0-11;9@1-11;8@1-11;9@2-11;0@3-11;9@4-11", 7);
        is("three, each but once", x.july(1, -1), 27);
        rota("0@6-10;0@6-11", 2);
        is("a walk that does not count", x.july(1, -1), 0);
        x.ghost(0, 0, 0, 0, 0);
        rota("0@0-11", 1);
        is("cold 0", x.july(1, -1), 0);
    }

    // ---- NIGHTS OFF

    private void offOneTo366Nights() {
        fresh();
        plainGhost(0, 999);
        plainGhost(9, 999);
        for (int d = 1; d <= 366; d++) {
            is("0 in " + d, x.off(2, d, 0), (d + 1) / 2);
        }
        is("9 in 366", x.off(2, 366, 9), 183);
        is("9 in 1", x.off(2, 1, 9), 0);
        is("alone in 366", x.off(1, 366, 0), 366);
        for (int d : new int[] {0, 367, -1, MIN, MAX}) {
            is(d + " nights", x.off(1, d, 0), -1);
        }
    }

    private void offOneToAllGhosts() {
        fresh();
        is("none told", x.off(1, 1, 0), -1);
        is("none told", x.off(0, 1, 0), -1);
        for (int g = 9; g >= 0; g--) {
            plainGhost(g, 5);
            int told = 10 - g;
            is(told + " of " + told, x.off(told, told, 9), 1);
            is(told + 1 + " of " + told, x.off(told + 1, 1, 9), -1);
            is("0 of " + told, x.off(0, 1, 9), -1);
            is("one of " + told, x.off(1, 7, g), 7);
            is("9 is none of so many", told == 1 ? -2 : x.off(told - 1, 1, 9), -2);
        }
        is("11 of ten", x.off(11, 1, 0), -1);
        is("ten in 366", x.off(10, 366, 5), 37);
        is("ten in 366", x.off(10, 366, 6), 36);
        is("ghost -1", x.off(1, 1, -1), -1);
        is("ghost 10", x.off(1, 1, 10), -1);
        fresh();
        plainGhost(2, 1);
        plainGhost(7, 9);
        plainGhost(8, 99);
        is("the two lowest", x.off(2, 10, 7), 9);
        is("the two lowest", x.off(2, 10, 2), 1);
        is("8 is none of them", x.off(2, 10, 8), -2);
        is("8 is far from the lowest", x.off(1, 10, 8), -2);
        is("5 is not told", x.off(2, 10, 5), -1);
    }

    private void offAsFractions() {
        fresh();
        plainGhost(0, 3);
        plainGhost(1, 5);
        // 5; 3 ahead of 5/2; 5/2 ahead of 3/2; 5/3 ahead of 3/2; 3/2 ahead of 5/4; 5/4 ahead of 3/3; 3/3 and 5/5: 0
        int[] of0 = {0, 1, 1, 1, 2, 2, 3, 3};
        for (int d = 1; d <= 8; d++) {
            is("0 in " + d, x.off(2, d, 0), of0[d - 1]);
            is("1 in " + d, x.off(2, d, 1), d - of0[d - 1]);
        }
        plainGhost(0, 998);
        plainGhost(1, 999);
        is("a little more", x.off(2, 1, 1), 1);
        is("by turns", x.off(2, 366, 0), 183);
        plainGhost(0, 1);
        is("1 against 999/366", x.off(2, 366, 0), 0);
        plainGhost(0, 3);
        is("3 is like 999/333", x.off(2, 333, 0), 1);
        is("but not like 999/332", x.off(2, 332, 0), 0);
    }

    private void offOfLikeOnes() {
        fresh();
        plainGhost(3, 0);
        plainGhost(4, 0);
        is("no years: the lowest each night", x.off(2, 366, 3), 366);
        is("no years", x.off(2, 366, 4), 0);
        plainGhost(4, 1);
        is("one year", x.off(2, 366, 4), 366);
        plainGhost(3, 1);
        is("like ones: the lowest first", x.off(2, 1, 3), 1);
        is("then the other", x.off(2, 2, 4), 1);
    }

    // ---- BIDS

    private void bidsByWorths() {
        fresh();
        int[][] corners = {{0, 0, 1, 1, 1}, {20, 0, 9, 1, 1}, {0, 20, 8, 1, 2}, {20, 20, 1, 9, 9}};
        for (int[] c : corners) {
            for (int what = 0; what < 3; what++) {
                is("bids " + c[0] + " " + c[1] + " " + what, x.bids(c[0], c[1], what), c[2 + what]);
            }
            is("what 3", x.bids(c[0], c[1], 3), -1);
            is("what -1", x.bids(c[0], c[1], -1), -1);
        }
        for (int worth : new int[] {-1, 21, MIN, MAX}) {
            is("worth " + worth, x.bids(worth, 0, 0), -1);
            is("worth " + worth, x.bids(0, worth, 0), -1);
        }
        for (int a = 0; a <= 20; a++) {
            fresh();
            for (int b = 0; b <= 20; b++) {
                yes("there are always some: " + a + " " + b, x.bids(a, b, 0) > 0 && x.bids(a, b, 1) > 0 && x.bids(a, b, 2) > 0);
            }
        }
    }

    private void bidsFromOneToNine() {
        fresh();
        // below 9 the second one would be outbid, at 9 it can't be, nor can the first one: 8 and 9, or 9 and 9
        is("9 by 20", x.bids(9, 20, 0), 2);
        is("9 by 20", x.bids(9, 20, 1), 8);
        is("9 by 20", x.bids(9, 20, 2), 9);
        is("10 by 20: it gains by 9 as well", x.bids(10, 20, 0), 1);
        is("10 by 20", x.bids(10, 20, 1), 9);
        is("10 by 20", x.bids(10, 20, 2), 9);
        // neither would have it at 1, where the first one must
        is("0 by 1", x.bids(0, 1, 0), 1);
        is("1 by 0", x.bids(1, 0, 0), 1);
        is("0 by 2: 1 and 1, or 1 and 2", x.bids(0, 2, 0), 2);
        is("0 by 2", x.bids(0, 2, 2), 1);
        is("0 by 3: it goes up", x.bids(0, 3, 2), 2);
    }

    private void bidsThatAreAlike() {
        fresh();
        // 4 and 4, 4 and 5, 5 and 5: by 5 the second one would have it, but gain nothing
        is("5 and 5", x.bids(5, 5, 0), 3);
        is("5 and 5: the first ones", x.bids(5, 5, 1), 4);
        is("5 and 5: the first ones", x.bids(5, 5, 2), 4);
        is("9 and 9", x.bids(9, 9, 0), 3);
        is("9 and 9", x.bids(9, 9, 1), 8);
        is("9 and 9", x.bids(9, 9, 2), 8);
        is("10 and 10: 9 and 9 alone", x.bids(10, 10, 0), 1);
        is("10 and 10", x.bids(10, 10, 1), 9);
        is("10 and 10", x.bids(10, 10, 2), 9);
    }

    // ---- ODDS

    private void fraction(int night, int p, int above, int below) {
        is("odds of night " + night + ", above", x.odds(night, p, 0), above);
        is("odds of night " + night + ", below", x.odds(night, p, 1), below);
    }

    /** Loud ones, so that walks in rooms 4, 5 and 6 reach a bed in room 5; others in rooms that do not. */
    private void loudOnes(String law) {
        fresh(law);
        for (int g = 0; g < 10; g++) {
            x.ghost(g, LOUD, 0, 0, g);
        }
        sleeperIn(0, 0, 5);
    }

    private void oddsOfFourWalks() {
        loudOnes("k(1=1);z1(1=1)");
        fraction(0, 0, 0, 1);
        rota("0@0-5", 1);
        fraction(0, 0, 9, 10);
        rota("0@0-5;1@0-4", 2);
        fraction(0, 0, 99, 100);
        rota("0@0-5;1@0-4;2@0-6", 3);
        fraction(0, 0, 999, 1000);
        rota("0@0-5;1@0-4;2@0-6;3@0-9", 4);
        fraction(0, 0, 999, 1000);
        sleeperIn(0, 0, 5);
        law("k(1=1);z9(1=1)", 2);
        rota("0@6-5;1@6-4;2@6-6;3@6-9", 4);
        fraction(6, 0, 271, 1000);
        fraction(0, 0, 0, 1);
    }

    private void oddsOfFive() {
        loudOnes("k(1=1);z1(1=1)");
        rota("0@0-5;1@0-4;2@0-6;3@0-9;4@0-11", 5);
        is("five", x.odds(0, 0, 0), -2);
        is("five", x.odds(0, 0, 1), -2);
        is("another night", x.odds(1, 0, 1), 1);
        rota("0@0-5;1@0-4;2@0-6;3@0-9;4@0-9", 5);
        fraction(0, 0, 999, 1000);
        rota("0@0-5;1@0-4;2@0-6;4@0-9;3@0-9", 5);
        fraction(0, 0, 999, 1000);
        rota("0@0-5;1@0-4;2@0-6;3@0-9;0@0-11;1@0-10", 6);
        fraction(0, 0, 999, 1000);
        rota("0@0-5;1@0-4;2@0-6;3@0-9;4@1-11", 5);
        fraction(0, 0, 999, 1000);
        law("k(1=1);z10(g=4)", 2);
        rota("0@0-5;1@0-4;2@0-6;3@0-9;4@0-11", 5);
        is("one that always strikes is drawn for", x.odds(0, 0, 0), -2);
        fresh("k(1=1)");
        for (int g = 0; g < 4; g++) {
            x.ghost(g, 0, 0, 0, g);
        }
        sleeperIn(0, 0, 5);
        rota("0@0-5;1@0-4;2@0-6;3@0-9;4@0-11", 5);
        fraction(0, 0, 1, 1);
        plainGhost(4, 0);
        is("told now", x.odds(0, 0, 0), -2);
    }

    private void oddsAtTheirEnds() {
        loudOnes("k(1=1);z0(1=1)");
        rota("0@0-5;1@0-4;2@0-6;3@0-9", 4);
        fraction(0, 0, 1, 1);
        law("k(1=1);z10(1=1)", 2);
        fraction(0, 0, 0, 1);
        law("k(1=2);z5(1=1)", 2);
        fraction(0, 0, 0, 1);
        law("k(1=1);z0(g=3);z9(1=1)", 3);
        fraction(0, 0, 271, 1000);
        law("k(1=1);z0(g=2);z9(1=1)", 3);
        fraction(0, 0, 1, 1);
        law("k(1=1);f0(1=1);z3(1=1)", 3);
        rota("0@0-5", 1);
        fraction(0, 0, 7, 10);
        x.sleeps(0, 0, 1, -1);
        fraction(0, 0, 0, 1);
        is("night -1", x.odds(-1, 0, 0), -1);
        is("night 7", x.odds(7, 0, 0), -1);
        is("what -1", x.odds(0, 0, -1), -1);
        is("what 2", x.odds(0, 0, 2), -1);
        is("not told", x.odds(0, 1, 0), -1);
    }

    private void oddsWithoutACommonDivisor() {
        loudOnes("k(1=1);z5(1=1)");
        rota("0@0-5", 1);
        fraction(0, 0, 1, 2);
        rota("0@0-5;1@0-4", 2);
        fraction(0, 0, 3, 4);
        rota("0@0-5;1@0-4;2@0-6", 3);
        fraction(0, 0, 7, 8);
        int[] above = {1, 9, 4, 7, 3, 1, 2, 3, 1, 1, 0};
        int[] below = {1, 10, 5, 10, 5, 2, 5, 10, 5, 10, 1};
        rota("0@0-5", 1);
        for (int tenths = 0; tenths <= 10; tenths++) {
            law("k(1=1);z" + tenths + "(1=1)", 2);
            fraction(0, 0, above[tenths], below[tenths]);
        }
        law("k(1=1);z9-g(1=1)", 2);
        rota("0@0-5;1@0-4;2@0-6", 3);
        // 9, 8 and 7 tenths: 1 less 504 of a thousand
        fraction(0, 0, 62, 125);
    }

    private void oddsByChains() {
        fresh("k(1=1);z2+3*h(1=1)");
        for (int g = 0; g < 3; g++) {
            x.ghost(g, CHAINED, 0, 0, 9 - g);
        }
        sleeperIn(0, 0, 0);
        sleeperIn(2, 0, 2);
        rota("1@0-0+;0@0-0+;2@0-2+", 3);
        fraction(0, 0, 0, 1);
        x.chains(1);
        fraction(0, 0, 0, 1);
        x.chains(2);
        fraction(0, 0, 1, 2);
        fraction(0, 2, 0, 1);
        x.chains(3);
        fraction(0, 2, 1, 2);
        is("asked, nothing is changed", x.count(3), 1);
    }

    // ---- KEPT and UNDONE

    private void undoneWithNothingKept() {
        fresh();
        plainGhost(0, 7);
        x.live();
        x.seed(99);
        no("nothing is kept", x.undo());
        is("weeks", x.soFar(5), 1);
        is("X", x.count(3), 99);
        is("years", x.count(50), 7);
        no("nothing is kept", x.undo());
        is("keep", x.keep(), 1);
        yes("kept", x.undo());
    }

    private void keptAtOnce() {
        fresh();
        is("keep of a new one", x.keep(), 0);
        x.cats(0, 9);
        x.chains(9);
        x.allSouls(0);
        x.seed(0);
        plainGhost(0, 0);
        sleeperIn(0, 0, 0);
        x.live();
        yes("undo", x.undo());
        int[] whats = {3, 4, 5, 6, 7, 10};
        int[] want = {1, 0, -1, 0, 0, 0};
        for (int i = 0; i < whats.length; i++) {
            is("count " + whats[i], x.count(whats[i]), want[i]);
        }
        is("weeks", x.soFar(5), 0);
    }

    private void keptLast() {
        fresh();
        x.chains(1);
        is("keep", x.keep(), 0);
        x.chains(2);
        x.live();
        is("keep again", x.keep(), 1);
        x.chains(3);
        yes("undo", x.undo());
        is("as kept last", x.count(4), 2);
        x.chains(4);
        yes("undo again", x.undo());
        is("as kept last", x.count(4), 2);
        is("weeks", x.soFar(5), 1);
        is("keep what was undone", x.keep(), 1);
        is("chains", x.count(4), 2);
    }

    private void keptAllOfIt() {
        fresh("k(v=9&c=9&m=9&t=9);f9(1=1);w9(1=1);z10(g=8)");
        for (int i = 0; i < 10; i++) {
            x.ghost(i, 0, 9, 9, 999);
            sleeperIn(i, 9, i);
            x.cats(i, 9);
        }
        x.cats(11, 9);
        x.chains(9);
        x.allSouls(6);
        rota("0@6-0;9@6-9;8@6-8;1@6-0", 4);
        x.live();
        x.seed(65535);
        is("keep", x.keep(), 1);
        for (int i = 0; i < 10; i++) {
            x.ghost(i, 1, 0, 0, 0);
            sleeperIn(i, 0, 11);
            x.cats(i, 0);
        }
        x.cats(11, 0);
        x.chains(0);
        x.allSouls(-1);
        x.live();
        yes("undo", x.undo());
        int[] whats = {3, 4, 5, 6, 7, 10, 19, 21, 30, 39, 40, 49, 50, 59, 100, 109, 160, 169};
        int[] want = {65535, 9, 6, 1023, 1023, 9, 9, 9, 9, 9, 0, 0, 999, 999, 0, 9, 0, 9};
        for (int i = 0; i < whats.length; i++) {
            is("count " + whats[i], x.count(whats[i]), want[i]);
        }
        int[] so = {0, 1, 2, 3, 4, 5, 10, 19, 18, 20, 29, 28, 30, 39};
        int[] far = {18, 36, 2, 1, 1, 1, 9, 9, 0, 1, 1, 0, 18, 18};
        for (int i = 0; i < so.length; i++) {
            is("so far " + so[i], x.soFar(so[i]), far[i]);
        }
        x.seed(1);
        is("nerves, cold, moan and cats are as kept", x.week(0), 18);
    }

    private void notKept() {
        fresh("k(1=1)");
        rota("0@0-0", 1);
        x.feed(0, 0, 0, 0, 0);
        x.keep();
        is("the tape stays", x.count(2), 20);
        x.feed(0, 0, 0, 0, 0);
        x.rota(40);
        x.feed(0, 0, 0, 0, 0);
        x.feed(0, 0, 0, 0, 0);
        x.feed(0, 0, 0, 0, 0);
        yes("undo", x.undo());
        is("the tape is not undone", x.count(2), 60);
        x.check(0);
        rota("1@1-1;2@2-2", 2);
        law("k(1=1);k(1=1);k(1=1)", 3);
        yes("undo", x.undo());
        is("the rota is not undone", x.count(0), 2);
        is("the law is not undone", x.count(1), 3);
    }

    // ---- CHECK

    private void checkNoneToTen() {
        fresh();
        for (int n = 0; n <= 10; n++) {
            x.feed(0, 0, 0, 0, 0);
            x.feed(0, 0, 0, 0, 0);
            is("check " + n, x.check(n), -1);
            is("empty then", x.count(2), 0);
        }
        x.feed(0, 0, 0, 0, 0);
        x.feed(0, 0, 0, 0, 0);
        x.feed(0, 0, 0, 0, 0);
        for (int n : new int[] {-1, 11, 12, 15, 16, MIN, MAX, 1 << 30, -1 << 30}) {
            is("check " + n, x.check(n), -2);
            is("the tape stays", x.count(2), 60);
        }
        is("all ten", x.check(10), -1);
    }

    private void checkOfNoMoreThanIsFed() {
        fresh();
        is("0 of none", x.check(0), -1);
        is("1 of none", x.check(1), -2);
        x.feed(0, 0, 0, 0, 0);
        is("6 of 5", x.check(6), -2);
        is("the tape stays", x.count(2), 20);
        is("5 of 5", x.check(5), -1);
        is("empty then", x.count(2), 0);
        is("1 of none", x.check(1), -2);
        x.feed(0, 0, 0, 0, 7);
        is("4 of 5", x.check(4), -1);
        is("all is gone", x.count(2), 0);
    }

    private void checkTheFirstThatIsNotSo() {
        fresh("k(1=1);fp(1=1)");
        plainGhost(0, 0);
        for (int p = 0; p < 10; p++) {
            if (p != 4) {
                sleeperIn(p, 0, 0);
            }
        }
        rota("0@0-0", 1);
        x.live();
        for (int wrong = 0; wrong <= 10; wrong++) {
            int[] v = {0, 1, 2, 3, 0, 5, 6, 7, 8, 9};
            for (int p = wrong; p < 10; p++) {
                v[p]++;
            }
            for (int n = 0; n <= 10; n++) {
                x.feed(v[0], v[1], v[2], v[3], v[4]);
                x.feed(v[5], v[6], v[7], v[8], v[9]);
                is("wrong from " + wrong + ", check " + n, x.check(n), n > wrong ? wrong : -1);
            }
        }
        x.feed(0, 1, 2, 3, 4);
        is("who is not told has none", x.check(5), 4);
        x.sleeper(1, 0);
        x.feed(0, 0, 2, 3, 0);
        is("who is told anew has none", x.check(5), -1);
    }

    private void checkOfFourBytes() {
        fresh("k(1=1);f99(1=1)");
        plainGhost(0, 0);
        sleeperIn(0, 0, 0);
        rota("0@0-0;0@1-0;0@2-0;0@3-0;0@4-0;0@5-0;0@6-0", 7);
        for (int week = 0; week < 120; week++) {
            x.live();
        }
        // 120 weeks of 693
        int right = 0x0144d8;
        is("fright", x.soFar(10), right);
        int[] wrong = {0x44d8, 0xd8, 0x0144, 0x0144d801, 0x0101d8d8, right + (1 << 24), right | MIN, -right, right - 1, right + 1, 0, -1};
        for (int value : wrong) {
            x.feed(value, 0, 0, 0, 0);
            is("check " + value, x.check(1), 0);
        }
        x.feed(right, 0, 0, 0, 0);
        is("check " + right, x.check(1), -1);
        for (int bit = 0; bit < 32; bit++) {
            x.feed(right ^ 1 << bit, 0, 0, 0, 0);
            is("bit " + bit, x.check(1), 0);
        }
    }

    // ---- which answer is told first

    private void noneAheadOfAFault() {
        fresh();
        for (int i = 0; i < 11; i++) {
            x.feed(0, 0, 0, 0, 0);
        }
        is("rota: no such n, though a fault", x.rota(161), -1);
        is("law: no such n, though a fault", x.law(201), -1);
        is("rota: no such n", x.rota(0), -1);
        is("law: no such n", x.law(0), -1);
        is("the tape stays", x.count(2), 220);
        is("law: a fault", x.law(200), -1000);
        x.feed(0, 0, 0, 0, 0);
        is("rota: it has not so many, though a fault", x.rota(21), -1);
        is("law: it has not so many, though a fault", x.law(21), -1);
        is("the tape stays", x.count(2), 20);
        is("rota: a fault", x.rota(20), -1000);
    }

    private void noneAheadOfMinusTwo() {
        fresh("k(1=2)");
        for (int g = 0; g < 5; g++) {
            plainGhost(g, 0);
        }
        sleeperIn(0, 0, 0);
        rota("0@0-0;1@0-1;2@0-2;3@0-3;4@0-4", 5);
        is("fright", x.fright(0, 0, 0, 0, 0), -2);
        is("fright, no such ghost", x.fright(5, 0, 0, 0, 0), -1);
        is("fright, no such sleeper", x.fright(0, 1, 0, 0, 0), -1);
        is("fright, no such night", x.fright(0, 0, 7, 0, 0), -1);
        is("fright, no such room", x.fright(0, 0, 0, 12, 0), -1);
        is("fright, no such what", x.fright(0, 0, 0, 0, 2), -1);
        is("odds", x.odds(0, 0, 0), -2);
        is("odds, no such night", x.odds(7, 0, 0), -1);
        is("odds, no such sleeper", x.odds(0, 1, 0), -1);
        is("odds, no such what", x.odds(0, 0, 2), -1);
        is("off", x.off(1, 1, 1), -2);
        is("off, no such n", x.off(0, 1, 1), -1);
        is("off, no such n", x.off(6, 1, 1), -1);
        is("off, no such d", x.off(1, 0, 1), -1);
        is("off, no such d", x.off(1, 367, 1), -1);
        is("off, no such ghost", x.off(1, 1, 5), -1);
        is("candle", x.candle(0, 1, 1), -2);
        is("candle, no such night", x.candle(-1, 1, 1), -1);
        is("candle, no such sleepers", x.candle(0, 3, 1), -1);
        is("candle, none of them", x.candle(0, 0, 2), -1);
        is("july", x.july(1, 1), -2);
        is("july, no such n", x.july(0, 1), -1);
        is("once", x.once(1, 0), -2);
        is("once, no such ghost", x.once(1, 5), -3);
        is("once, no such sleeper", x.once(2, 0), -3);
    }
}
