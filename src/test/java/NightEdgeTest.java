/** The bounds of rooms, kinds, chains, claims, cats and draws: "Terms" from ROOMS on, A NIGHT, DRAWS, THE WEEK. */
public final class NightEdgeTest extends Asked {
    private static final int LOUD = 2;
    private static final int CHAINED = 4;

    private NightEdgeTest() {
        super("NightEdgeTest");
    }

    public static void main(String[] args) {
        NightEdgeTest t = new NightEdgeTest();
        t.emptyHouse();
        t.roomsInARow();
        t.loudOneNextDoor();
        t.shyOneAndCompany();
        t.draughtAndChained();
        t.awayIsNoRoom();
        t.toldAndNotTold();
        t.toldAnew();
        t.shorterRotaLeavesNothingBehind();
        t.firstWalkOfANightCounts();
        t.firstWalkCountsThoughItCameToNothing();
        t.sixteenWalksOfOneGhost();
        t.chainsOfANight();
        t.chainsAnewEachNight();
        t.chainStaysWithWhoStood();
        t.chainStaysWithWhoStruck();
        t.claimsByYears();
        t.claimsOfLikeYears();
        t.claimsInTheSameRoomAndNight();
        t.claimsByTheFirstWalkAlone();
        t.whoStrikesOrStandsClaimsToo();
        t.whoStandsDoesNotDraw();
        t.drawBelowTenths();
        t.drawsModulo65536();
        t.allSoulsInEachNight();
        t.nightsInOrder();
        t.fullWeek();
        t.askedNothingIsChanged();
        t.livedIsAddedUp();
        t.fiveHundredAndTwelveCalls();
        t.due.end();
    }

    private static int next(int x) {
        return (int) ((25173L * x + 13849) % 65536);
    }

    /** A seed after which the draw is this one. */
    private static int seedFor(int draw) {
        int seed = 0;
        while (next(seed) % 10 != draw) {
            seed++;
        }
        return seed;
    }

    private void emptyHouse() {
        fresh("k(1=1);f9(1=1);w9(1=1);z9(1=1);q9(1=1)");
        for (int what : new int[] {0, 1, 2, 3, 4, 40, 46}) {
            is("week " + what, x.week(what), 0);
        }
        rota("0@0-0;9@6-11+", 2);
        for (int what : new int[] {0, 1, 2, 3, 4, 40, 46}) {
            is("nobody is told: week " + what, x.week(what), 0);
        }
        is("live", x.live(), 0);
        is("X", x.count(3), 1);
        is("draughts", x.draughts(), 0);
        plainGhost(0, 0);
        is("a ghost without sleepers", x.week(0), 0);
        is("strikes or draws its wage", x.week(1) + 9 * x.week(3), 9);
    }

    private void roomsInARow() {
        fresh("k(1=1)");
        for (int kind = 0; kind < 5; kind++) {
            x.ghost(kind, kind, 0, 0, 0);
        }
        x.sleeper(0, 0);
        for (int bed = 0; bed < 12; bed++) {
            x.sleeps(0, 0, 7, bed);
            for (int room = 0; room < 12; room++) {
                String where = "bed " + bed + ", walk " + room + ", kind ";
                int here = room == bed ? 0 : -2;
                boolean near = room == bed || room == bed + 1 || room == bed - 1;
                is(where + 0, x.fright(0, 0, 0, room, 0), here);
                is(where + LOUD, x.fright(LOUD, 0, 6, room, 0), near ? 0 : -2);
            }
            is("shy", x.fright(1, 0, 3, bed, 0), 0);
            is("chained", x.fright(CHAINED, 0, 3, bed, 1), 0);
            is("chained, next door", x.fright(CHAINED, 0, 3, bed == 0 ? 1 : bed - 1, 1), -2);
            is("shy, next door", x.fright(1, 0, 3, bed == 0 ? 1 : bed - 1, 1), -2);
        }
    }

    /** r, t and o are of the room that the sleeper is in, not of that which is walked. */
    private void loudOneNextDoor() {
        fresh("k(1=1);f20*o+r+t(1=1)");
        x.ghost(0, LOUD, 0, 0, 0);
        sleeperIn(0, 0, 0);
        sleeperIn(1, 0, 1);
        sleeperIn(2, 0, 1);
        sleeperIn(9, 0, 11);
        x.cats(0, 4);
        x.cats(1, 7);
        x.cats(10, 3);
        x.cats(11, 6);
        is("one in room 0, from 0", x.fright(0, 0, 0, 0, 0), 24);
        is("one in room 0, from 1", x.fright(0, 0, 0, 1, 0), 24);
        is("two in room 1, from 1", x.fright(0, 1, 0, 1, 0), 48);
        is("two in room 1, from 0", x.fright(0, 2, 0, 0, 0), 48);
        is("two in room 1, from 2", x.fright(0, 2, 0, 2, 0), 48);
        is("one in room 11, from 10", x.fright(0, 9, 0, 10, 0), 37);
        is("one in room 11, from 11", x.fright(0, 9, 0, 11, 0), 37);
        rota("0@0-0;0@6-11;0@3-10", 3);
        is("all three from 0", x.week(40), 24 + 48 + 48);
        is("one from 11", x.week(46), 37);
        is("one from 10", x.week(43), 37);
        law("k(r=1);f1(1=1)", 2);
        is("k looks there, too", x.week(2), 2);
        law("wr(1=1);k(1=1)", 2);
        is("its wage is by the room it walks", x.week(1), 21);
    }

    private void shyOneAndCompany() {
        fresh("k(1=1);fo(1=1)");
        x.ghost(0, 1, 0, 0, 0);
        x.ghost(1, 0, 0, 0, 0);
        sleeperIn(0, 0, 4);
        is("one alone", x.fright(0, 0, 0, 4, 0), 1);
        sleeperIn(9, 0, 5);
        is("another one next door", x.fright(0, 0, 0, 4, 0), 1);
        x.sleeps(9, 2, 3, 4);
        is("two", x.fright(0, 0, 2, 4, 0), -2);
        is("two", x.fright(0, 9, 2, 4, 0), -2);
        is("two, with a chain", x.fright(0, 9, 2, 4, 1), -2);
        is("a plain one does", x.fright(1, 0, 2, 4, 0), 2);
        is("alone the night before", x.fright(0, 0, 1, 4, 0), 1);
        is("alone the night behind", x.fright(0, 0, 3, 4, 0), 1);
        x.sleeper(9, 0);
        is("told anew it is away", x.fright(0, 0, 2, 4, 0), 1);
    }

    private void draughtAndChained() {
        fresh("k(1=1);w5(1=1)");
        for (int kind = 0; kind < 5; kind++) {
            x.ghost(kind, kind, 0, 0, 0);
        }
        sleeperIn(0, 0, 4);
        int[] without = {0, 0, 0, -2, -2};
        int[] with = {0, 0, 0, -2, 0};
        for (int kind = 0; kind < 5; kind++) {
            is("without, kind " + kind, x.fright(kind, 0, 0, 4, 0), without[kind]);
            is("with, kind " + kind, x.fright(kind, 0, 0, 4, 1), with[kind]);
        }
        rota("3@0-4;4@1-4+;4@2-4", 3);
        is("no chains", x.week(2), 0);
        is("wages all the same", x.week(1), 15);
        x.chains(1);
        is("a chain", x.week(2), 1);
        is("a chain", x.week(24), 1);
    }

    private void awayIsNoRoom() {
        fresh("k(1=1);fo(1=1)");
        x.ghost(0, LOUD, 0, 0, 0);
        x.sleeper(0, 0);
        x.sleeper(1, 0);
        for (int room = 0; room < 12; room++) {
            is("away, walk " + room, x.fright(0, 0, 0, room, 0), -2);
        }
        x.sleeps(0, 0, 1, 11);
        is("the other one is not there", x.fright(0, 0, 0, 11, 0), 1);
        is("away in night 0", x.fright(0, 1, 0, 11, 0), -2);
        x.sleeps(0, 0, 1, -1);
        is("away again", x.fright(0, 0, 0, 11, 0), -2);
        is("255", x.count(100), 255);
        is("best walk", x.bestWalk(0, 2), 0);
        is("candle", x.candle(0, 1, 0), 0);
        is("once", x.once(1, -1), -2);
    }

    private void toldAndNotTold() {
        fresh("k(1=1);f1(1=1);w1(1=1)");
        rota("0@0-0;9@1-0", 2);
        sleeperIn(0, 0, 0);
        is("no ghost", x.week(2), 0);
        plainGhost(9, 0);
        is("ghost 9", x.week(2), 1);
        is("ghost 9", x.week(29), 1);
        plainGhost(0, 0);
        is("and ghost 0", x.week(2), 2);
        sleeperIn(9, 0, 0);
        is("and sleeper 9", x.week(2), 4);
        is("sleeper 9", x.week(19), 2);
    }

    private void toldAnew() {
        for (int i = 0; i < 10; i += 3) {
            fresh("k(1=1);f1(1=1);w1(1=1)");
            for (int other = 0; other < 10; other += 3) {
                plainGhost(other, 0);
                sleeperIn(other, 0, other);
            }
            rota("0@0-0;3@0-3;6@0-6;9@0-9", 4);
            x.live();
            plainGhost(i, 0);
            x.sleeper(i, 0);
            for (int other = 0; other < 10; other += 3) {
                int left = other == i ? 0 : 1;
                is("fright of " + other + " when " + i + " is told anew", x.soFar(10 + other), left);
                is("sighs of " + other + " when " + i + " is told anew", x.soFar(20 + other), left);
                is("wages of " + other + " when " + i + " is told anew", x.soFar(30 + other), left);
                is("bed of " + other + " when " + i + " is told anew", x.count(100 + other), left == 0 ? 255 : other);
                is("last bed of " + other + " when " + i + " is told anew", x.count(160 + other), left == 0 ? 255 : other);
            }
            is("what was added up stays", x.soFar(0) + x.soFar(1) + x.soFar(2), 12);
        }
    }

    private void shorterRotaLeavesNothingBehind() {
        fresh("k(1=1);f1(1=1);w1(1=1);qc(1=1)");
        x.ghost(0, 0, 0, 9, 0);
        x.ghost(1, 0, 0, 9, 9);
        sleeperIn(0, 0, 0);
        x.chains(9);
        rota(times(14, "1@0-0;") + "1@1-0;1@2-0", 16);
        is("three walks count", x.week(1), 3);
        is("shared, the first", x.shared(0, 1), 1);
        is("shared, the last of sixteen", x.shared(2, 1), 1);
        is("odds, the last of sixteen", x.odds(2, 0, 0), 1);
        is("cold", x.july(1, -1), 9);
        rota("0@0-0", 1);
        is("one walk is left", x.week(1), 1);
        is("nobody claims", x.week(4), 0);
        for (int night = 0; night < 7; night++) {
            is("shared", x.shared(night, 1), night == 0 ? 1 : 0);
            is("odds", x.odds(night, 0, 0), night == 0 ? 1 : 0);
        }
        is("1 has none", x.bestWalk(1, 2), 1);
        rota("1@1-5;0@0-0", 2);
        rota("1@1-5", 1);
        is("shared", x.shared(0, 1), 0);
        is("odds", x.odds(0, 0, 0), 0);
        is("week", x.week(0), 0);
        is("cold", x.july(2, -1), 9);
        is("0 has none", x.bestWalk(0, 2), 1);
    }

    private void firstWalkOfANightCounts() {
        fresh("k(1=1);f1(1=1);w1(1=1)");
        plainGhost(0, 0);
        sleeperIn(0, 0, 0);
        sleeperIn(1, 0, 1);
        rota("0@0-0;0@0-1;0@1-1;0@1-0;0@6-0;0@0-1", 6);
        int[] counts = {1, 0, 1, 0, 1, 0};
        for (int i = 0; i < 6; i++) {
            is("walk " + i, x.walk(i, 4), counts[i]);
        }
        is("sleeper 0", x.week(10), 2);
        is("sleeper 1", x.week(11), 1);
        is("wages", x.week(1), 3);
        rota("0@0-0;1@0-1;1@0-0", 3);
        is("not told", x.walk(1, 4), 0);
        is("not told, and a second one", x.walk(2, 4), 0);
        plainGhost(1, 0);
        is("told now", x.walk(1, 4), 1);
        is("still a second one", x.walk(2, 4), 0);
    }

    private void firstWalkCountsThoughItCameToNothing() {
        fresh("k(1=1);z10(r=0)");
        plainGhost(0, 0);
        plainGhost(1, 9);
        sleeperIn(0, 0, 1);
        rota("0@0-0;0@0-1", 2);
        is("a strike", x.week(3), 1);
        is("no second walk behind a strike", x.week(2), 0);
        law("k(1=1)", 1);
        rota("1@0-0;0@0-0;0@0-1", 3);
        is("it stands", x.week(4), 1);
        is("no second walk for who stood", x.week(2), 0);
        rota("0@0-0;0@0-1", 2);
        is("no second walk for who walked", x.week(2), 0);
    }

    private void sixteenWalksOfOneGhost() {
        fresh("k(1=1);w1(1=1)");
        plainGhost(0, 0);
        rota(times(15, "0@3-0;") + "0@3-0", 16);
        is("one counts", x.week(1), 1);
        for (int i = 0; i < 16; i++) {
            is("walk " + i, x.walk(i, 4), i == 0 ? 1 : 0);
        }
        rota(times(14, "0@3-0;") + "0@6-0;0@0-0", 16);
        is("three count", x.week(1), 3);
        is("the last one", x.walk(15, 4), 1);
    }

    private void chainsOfANight() {
        fresh("k(1=1);f1+h(1=1)");
        StringBuilder all = new StringBuilder();
        for (int i = 0; i < 10; i++) {
            plainGhost(i, 0);
            sleeperIn(i, 0, i);
            all.append(i == 0 ? "" : ";").append(i).append("@6-").append(i).append('+');
        }
        rota(all.toString(), 10);
        for (int chains = 0; chains < 10; chains++) {
            x.chains(chains);
            is(chains + " chains", x.week(46), 10 + chains);
            is("the last that has one", chains == 0 ? 2 : x.week(9 + chains), 2);
            is("the first that has none", x.week(10 + chains), 1);
        }
    }

    private void chainsAnewEachNight() {
        fresh("k(1=1);f1+h(1=1)");
        for (int i = 0; i < 3; i++) {
            plainGhost(i, 0);
            sleeperIn(i, 0, i);
        }
        rota("0@0-0+;1@0-1+;0@1-0;2@1-2+;0@1-1+;1@1-1+;2@6-2+", 7);
        x.chains(1);
        is("night 0", x.week(40), 3);
        is("night 1", x.week(41), 4);
        is("night 6", x.week(46), 2);
        x.chains(0);
        is("night 6", x.week(46), 1);
    }

    private void chainStaysWithWhoStood() {
        fresh("k(1=1);f1+h(1=1)");
        plainGhost(0, 0);
        plainGhost(1, 0);
        plainGhost(2, 0);
        sleeperIn(0, 0, 0);
        sleeperIn(2, 0, 2);
        rota("1@0-0+;2@0-2+;0@0-0+;2@1-2+", 4);
        x.chains(1);
        is("1 stands", x.week(4), 1);
        is("2 has none", x.week(12), 1 + 2);
        is("0 has none", x.week(10), 1);
        x.chains(2);
        is("2 has one", x.week(12), 2 + 2);
        is("0 has none", x.week(10), 1);
        x.chains(3);
        is("0 has one", x.week(10), 2);
    }

    private void chainStaysWithWhoStruck() {
        fresh("k(1=1);f1+h(1=1);z10(g=1)");
        plainGhost(1, 0);
        plainGhost(2, 0);
        sleeperIn(2, 0, 2);
        rota("1@0-0+;2@0-2+;2@1-2+", 3);
        x.chains(1);
        is("1 strikes", x.week(3), 1);
        is("2 has none that night", x.week(40), 1);
        is("2 has one in the next", x.week(41), 2);
        x.chains(2);
        is("2 has one", x.week(40), 2);
    }

    /** Which of 3 and 5 walks, if both have a walk in one room, in either order. */
    private void claims(int years3, int years5, int walks) {
        for (String text : new String[] {"3@2-7;5@2-7", "5@2-7;3@2-7"}) {
            fresh("w1(1=1)");
            plainGhost(3, years3);
            plainGhost(5, years5);
            rota(text, 2);
            String of = text + " of " + years3 + " and " + years5 + " years";
            is(of + ": 3", x.week(33), walks == 3 ? 1 : 0);
            is(of + ": 5", x.week(35), walks == 5 ? 1 : 0);
            is(of + ": stood", x.week(4), 1);
        }
    }

    private void claimsByYears() {
        claims(999, 998, 3);
        claims(998, 999, 5);
        claims(1, 0, 3);
        claims(0, 1, 5);
        claims(0, 999, 5);
        claims(999, 0, 3);
    }

    private void claimsOfLikeYears() {
        claims(0, 0, 3);
        claims(999, 999, 3);
        claims(7, 7, 3);
        fresh("w1(1=1)");
        for (int g = 0; g < 10; g++) {
            plainGhost(g, g == 4 || g == 6 ? 8 : 7);
        }
        rota("9@0-0;8@0-0;7@0-0;6@0-0;5@0-0;4@0-0;3@0-0;2@0-0;1@0-0;0@0-0", 10);
        is("nine stand", x.week(4), 9);
        is("the lowest of the eldest", x.week(34), 1);
    }

    private void claimsInTheSameRoomAndNight() {
        fresh("w1(1=1)");
        plainGhost(0, 0);
        plainGhost(1, 9);
        rota("0@0-0;1@0-1", 2);
        is("the room beside", x.week(4), 0);
        rota("0@0-0;1@1-0", 2);
        is("the night behind", x.week(4), 0);
        rota("0@1-0;1@0-0", 2);
        is("the night before", x.week(4), 0);
        rota("0@0-11;2@0-11", 2);
        is("one that is not told", x.week(4), 0);
        x.ghost(2, 0, 0, 0, 0);
        rota("3@0-11;2@0-11", 2);
        is("one that is not told, behind its number", x.week(4), 0);
        fresh("w1(1=1)");
        plainGhost(5, 0);
        rota("5@0-11;3@0-11", 2);
        is("one that is not told, of a lower number", x.week(4), 0);
        is("one that is not told, of a lower number", x.week(35), 1);
        plainGhost(3, 0);
        is("told now", x.week(4), 1);
        is("told now", x.week(35), 0);
        fresh("w1(1=1)");
        plainGhost(0, 0);
        plainGhost(1, 9);
        rota("0@0-11;0@0-11", 2);
        is("itself", x.week(4), 0);
        rota("0@6-11;1@6-11", 2);
        is("the same room", x.week(4), 1);
        x.ghost(1, LOUD, 0, 0, 9);
        rota("0@6-11;1@6-10", 2);
        is("a loud one next door", x.week(4), 0);
    }

    private void claimsByTheFirstWalkAlone() {
        fresh("w1(1=1)");
        plainGhost(0, 0);
        plainGhost(1, 9);
        rota("1@0-5;1@0-0;0@0-0", 3);
        is("its second one claims nothing", x.week(4), 0);
        rota("0@0-0;1@0-5;1@0-0", 3);
        is("its second one claims nothing", x.week(4), 0);
        rota("1@0-0;1@0-5;0@0-0", 3);
        is("its first one does", x.week(4), 1);
        rota("1@1-5;1@0-0;0@0-0", 3);
        is("its first one of that night does", x.week(4), 1);
    }

    private void whoStrikesOrStandsClaimsToo() {
        fresh("w1(1=1);z10(g=1)");
        plainGhost(0, 0);
        plainGhost(1, 9);
        rota("0@0-0;1@0-0", 2);
        is("1 strikes", x.week(3), 1);
        is("0 stands all the same", x.week(4), 1);
        is("nobody is paid", x.week(1), 0);
        rota("1@0-0;0@0-0", 2);
        is("1 strikes ahead", x.week(3), 1);
        is("0 stands all the same", x.week(4), 1);
        plainGhost(2, 10);
        rota("2@0-0;1@0-0;0@0-0", 3);
        is("both stand", x.week(4), 2);
        is("no strike", x.week(3), 0);
    }

    private void whoStandsDoesNotDraw() {
        fresh("w1(1=1)");
        plainGhost(0, 0);
        plainGhost(1, 9);
        rota("0@0-0;1@0-0;5@0-0;1@0-3", 4);
        x.live();
        is("one draw", x.count(3), 39022);
        rota("0@0-0;1@0-1", 2);
        x.live();
        is("two draws more", x.count(3), 20196);
        law("w1(1=1);z10(1=1)", 2);
        x.live();
        is("who strikes draws", x.count(3), next(next(20196)));
    }

    private void drawBelowTenths() {
        for (int draw = 0; draw < 10; draw++) {
            fresh();
            plainGhost(0, 0);
            rota("0@0-0", 1);
            x.seed(seedFor(draw));
            for (int tenths = 0; tenths <= 11; tenths++) {
                law("z" + tenths + "(1=1);w1(1=1)", 2);
                is("draw " + draw + ", tenths " + tenths, x.week(3), draw < tenths ? 1 : 0);
                is("draw " + draw + ", tenths " + tenths, x.week(1), draw < tenths ? 0 : 1);
            }
            law("z0-1(1=1)", 1);
            is("draw " + draw + ", below 0", x.week(3), 0);
        }
    }

    private void drawsModulo65536() {
        fresh();
        plainGhost(0, 0);
        rota("0@0-0", 1);
        int[] seeds = {0, 1, 2, 3, 65534, 65535};
        // 25173 + 13849 is 39022; 65535 is as -1, that is -11324 or 54212
        int[] then = {13849, 39022, 64195, 23832, 29039, 54212};
        for (int i = 0; i < seeds.length; i++) {
            yes("seed " + seeds[i], x.seed(seeds[i]));
            x.live();
            is("X behind " + seeds[i], x.count(3), then[i]);
        }
        for (int target : new int[] {0, 65535}) {
            int seed = 0;
            while (next(seed) != target) {
                seed++;
            }
            x.seed(seed);
            x.live();
            is("X behind " + seed, x.count(3), target);
            x.live();
            is("X behind " + target, x.count(3), target == 0 ? 13849 : 54212);
        }
    }

    private void allSoulsInEachNight() {
        fresh("wn+1(1=1)");
        plainGhost(0, 0);
        rota("0@0-0;0@1-0;0@2-0;0@3-0;0@4-0;0@5-0;0@6-0", 7);
        is("none", x.week(1), 28);
        for (int night = 0; night < 7; night++) {
            x.allSouls(night);
            is("all souls " + night, x.week(1), 28 + night + 1);
            is("all souls " + night, x.week(30), 28 + night + 1);
        }
        x.allSouls(-1);
        is("none", x.week(1), 28);
        law("k(1=1);f3(1=1);w0(1=1)", 3);
        sleeperIn(0, 0, 0);
        x.allSouls(0);
        is("twice nothing", x.week(1), 0);
        is("fright is not twice that", x.week(0), 21);
    }

    private void nightsInOrder() {
        fresh("w1(1=1);z10-r(1=1)");
        plainGhost(0, 0);
        plainGhost(1, 0);
        // the draws are 2 and 7; in room 5 a draw below 5 is a strike
        rota("0@6-5;1@0-5", 2);
        is("1 draws first", x.week(31), 0);
        is("0 draws then", x.week(30), 1);
        rota("0@0-5;1@0-5;1@1-5", 3);
        is("0 draws first", x.week(30), 0);
        is("1 stood, and draws then", x.week(31), 1);
        rota("1@0-4;0@0-5", 2);
        is("1 draws first, as the rota has it", x.week(31), 0);
        is("0 draws then", x.week(30), 1);
    }

    private String loudest() {
        StringBuilder text = new StringBuilder();
        for (int night = 0; night < 5; night++) {
            text.append("0@").append(night).append("-4;1@").append(night).append("-5;2@").append(night).append("-6;");
        }
        return text.append("0@5-4").toString();
    }

    /** Sixteen walks of loud ones, each of which reaches all ten, at the bounds of f and w. */
    private void fullHouse() {
        fresh("k(1=1);f100(1=1);w1000(1=1)");
        for (int i = 0; i < 10; i++) {
            x.ghost(i, LOUD, 9, 9, 999);
            sleeperIn(i, 9, 5);
        }
        rota(loudest(), 16);
    }

    private void fullWeek() {
        fullHouse();
        int[] whats = {0, 1, 2, 3, 4, 10, 19, 20, 21, 22, 23, 29, 30, 31, 39, 40, 44, 45, 46};
        int[] want = {15840, 15984, 160, 0, 0, 1584, 1584, 60, 50, 50, 0, 0, 5994, 4995, 0, 2970, 2970, 990, 0};
        for (int i = 0; i < whats.length; i++) {
            is("week " + whats[i], x.week(whats[i]), want[i]);
        }
        x.allSouls(0);
        is("on all souls", x.week(1), 15984 + 3 * 999);
        x.allSouls(5);
        is("on all souls", x.week(1), 15984 + 999);
        x.allSouls(6);
        is("nobody walks on it", x.week(1), 15984);
        law("k(1=1);f100(1=1);w1000(1=1);z10(1=1)", 4);
        is("all strike", x.week(3), 16);
        is("all strike", x.week(0) + x.week(1) + x.week(2) + x.week(4), 0);
    }

    private void askedNothingIsChanged() {
        fullHouse();
        law("k(1=1);f9(1=1);w9(1=1);z4(1=1)", 4);
        int[] first = new int[47];
        for (int what = 0; what < 47; what++) {
            first[what] = x.week(what);
        }
        is("X", x.count(3), 1);
        is("weeks", x.soFar(5), 0);
        is("fright", x.soFar(0), 0);
        for (int what = 0; what < 47; what++) {
            is("week " + what + " again", x.week(what), first[what]);
        }
        is("live", x.live(), first[0]);
        for (int what = 0; what < 40; what++) {
            is("so far " + what, x.soFar(what), what == 5 ? 1 : first[what]);
        }
    }

    private void livedIsAddedUp() {
        fullHouse();
        for (int week = 1; week <= 400; week++) {
            is("week " + week, x.live(), 15840);
        }
        int[] whats = {0, 1, 2, 3, 4, 5, 10, 19, 20, 29, 30, 39};
        int[] want = {6336000, 6393600, 64000, 0, 0, 400, 633600, 633600, 24000, 0, 2397600, 0};
        for (int i = 0; i < whats.length; i++) {
            is("so far " + whats[i], x.soFar(whats[i]), want[i]);
        }
        law("z10(1=1)", 1);
        x.live();
        is("strikes", x.soFar(3), 16);
        rota("0@0-0;1@0-0", 2);
        x.live();
        is("strikes", x.soFar(3), 17);
        is("stood", x.soFar(4), 1);
        is("weeks", x.soFar(5), 402);
        is("fright as before", x.soFar(0), 6336000);
    }

    private void fiveHundredAndTwelveCalls() {
        fresh();
        for (int call = 1; call < 512; call++) {
            is("call " + call, x.live(), 0);
        }
        is("call 512", x.soFar(5), 511);
    }
}
