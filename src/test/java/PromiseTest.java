/** The promises 1 to 31, each with answers reckoned by hand from the document. */
public final class PromiseTest extends Asked {
    private PromiseTest() {
        super("PromiseTest");
    }

    public static void main(String[] args) {
        PromiseTest t = new PromiseTest();
        t.newObject();
        t.cats();
        t.allSouls();
        t.chains();
        t.sleeper();
        t.sleeps();
        t.ghost();
        t.feed();
        t.rota();
        t.law();
        t.lawFaultsOfDepth();
        t.walk();
        t.fright();
        t.kinds();
        t.reckoning();
        t.week();
        t.weekByCats();
        t.weekChains();
        t.live();
        t.soFar();
        t.once();
        t.bestWalk();
        t.candle();
        t.draughts();
        t.mended();
        t.mend();
        t.shared();
        t.july();
        t.off();
        t.bids();
        t.odds();
        t.seed();
        t.keepAndUndo();
        t.check();
        t.count();
        t.due.end();
    }

    private void newObject() {
        fresh();
        int[] want = {0, 0, 0, 1, 0, -1, 0, 0};
        for (int what = 0; what < want.length; what++) {
            is("new count " + what, x.count(what), want[what]);
        }
        for (int what = 0; what < 6; what++) {
            is("new soFar " + what, x.soFar(what), 0);
        }
        for (int r = 0; r < 12; r++) {
            is("new cats " + r, x.count(10 + r), 0);
        }
        for (int i = 0; i < 10; i++) {
            is("new ghost " + i, x.count(40 + i), -1);
            is("new sleeper " + i, x.count(100 + i), -1);
        }
        is("new walk", x.walk(0, 0), -1);
        no("new undo", x.undo());
        is("NONE", GhostRota.NONE, -1);
    }

    private void cats() {
        fresh();
        yes("cats(0, 9)", x.cats(0, 9));
        yes("cats(11, 4)", x.cats(11, 4));
        int[][] bad = {{-1, 0}, {12, 0}, {0, -1}, {0, 10}, {MIN, 1}, {MAX, 1}, {1, MIN}, {1, MAX}};
        for (int[] b : bad) {
            no("cats(" + b[0] + ", " + b[1] + ")", x.cats(b[0], b[1]));
        }
        is("count(10)", x.count(10), 9);
        is("count(11)", x.count(11), 0);
        is("count(21)", x.count(21), 4);
        yes("cats(0, 0)", x.cats(0, 0));
        is("count(10)", x.count(10), 0);
    }

    private void allSouls() {
        fresh();
        for (int n = -1; n < 7; n++) {
            yes("allSouls(" + n + ")", x.allSouls(n));
            is("count(5)", x.count(5), n);
        }
        for (int n : new int[] {-2, 7, MIN, MAX}) {
            no("allSouls(" + n + ")", x.allSouls(n));
        }
        is("count(5)", x.count(5), 6);
        yes("allSouls(-1)", x.allSouls(-1));
        is("count(5)", x.count(5), -1);
    }

    private void chains() {
        fresh();
        for (int n = 0; n < 10; n++) {
            yes("chains(" + n + ")", x.chains(n));
            is("count(4)", x.count(4), n);
        }
        for (int n : new int[] {-1, 10, MIN, MAX}) {
            no("chains(" + n + ")", x.chains(n));
        }
        is("count(4)", x.count(4), 9);
    }

    private void sleeper() {
        fresh("k(1=1);f7(1=1)");
        yes("sleeper(0, 0)", x.sleeper(0, 0));
        yes("sleeper(9, 9)", x.sleeper(9, 9));
        int[][] bad = {{-1, 0}, {10, 0}, {0, -1}, {0, 10}, {MIN, 0}, {MAX, 0}, {0, MAX}};
        for (int[] b : bad) {
            no("sleeper(" + b[0] + ", " + b[1] + ")", x.sleeper(b[0], b[1]));
        }
        is("count(7)", x.count(7), 513);
        for (int n = 0; n < 7; n++) {
            is("away at first", x.count(109 + 10 * n), 255);
        }
        sleeperIn(9, 1, 3);
        sleeperIn(0, 1, 3);
        x.ghost(0, 0, 0, 0, 0);
        rota("0@2-3", 1);
        is("live", x.live(), 14);
        is("soFar(19)", x.soFar(19), 7);
        yes("sleeper in place", x.sleeper(9, 4));
        is("soFar(19) in place", x.soFar(19), 0);
        is("soFar(10) of another", x.soFar(10), 7);
        is("soFar(0) all the same", x.soFar(0), 14);
        is("away again", x.count(129), 255);
        is("another's bed", x.count(120), 3);
        sleeperIn(9, 4, 3);
        law("k(v=4);f5(1=1)", 2);
        is("nerves", x.week(0), 5);
    }

    private void sleeps() {
        fresh();
        no("not told", x.sleeps(0, 0, 7, 0));
        x.sleeper(0, 0);
        x.sleeper(1, 0);
        int[][] bad = {{-1, 0, 7, 0}, {10, 0, 7, 0}, {2, 0, 7, 0}, {0, -1, 7, 0}, {0, 0, 8, 0}, {0, 3, 3, 0}, {0, 4, 3, 0},
            {0, 7, 7, 0}, {0, 0, 0, 0}, {0, 0, 7, 12}, {0, 0, 7, -2}, {0, MIN, MAX, 0}, {0, 0, MAX, 0}, {0, MIN, 7, 0}, {MAX, 0, 7, 0}};
        for (int[] b : bad) {
            no("sleeps " + b[0] + " " + b[1] + " " + b[2] + " " + b[3], x.sleeps(b[0], b[1], b[2], b[3]));
        }
        for (int n = 0; n < 7; n++) {
            is("still away", x.count(100 + 10 * n), 255);
        }
        yes("sleeps 2 to 5", x.sleeps(0, 2, 5, 11));
        int[] want = {255, 255, 11, 11, 11, 255, 255};
        for (int n = 0; n < 7; n++) {
            is("night " + n, x.count(100 + 10 * n), want[n]);
            is("another", x.count(101 + 10 * n), 255);
        }
        yes("away", x.sleeps(0, 3, 4, -1));
        is("away", x.count(130), 255);
        is("not away", x.count(140), 11);
        yes("all", x.sleeps(0, 0, 7, 0));
        is("first", x.count(100), 0);
        is("last", x.count(160), 0);
        yes("last night", x.sleeps(0, 6, 7, 5));
        is("last", x.count(160), 5);
    }

    private void ghost() {
        fresh("k(1=1);f7(1=1);w3(1=1)");
        yes("ghost", x.ghost(0, 4, 9, 9, 999));
        yes("ghost", x.ghost(9, 0, 0, 0, 0));
        int[][] bad = {{-1, 0, 0, 0, 0}, {10, 0, 0, 0, 0}, {0, -1, 0, 0, 0}, {0, 5, 0, 0, 0}, {0, 0, -1, 0, 0}, {0, 0, 10, 0, 0},
            {0, 0, 0, -1, 0}, {0, 0, 0, 10, 0}, {0, 0, 0, 0, -1}, {0, 0, 0, 0, 1000}, {MAX, 0, 0, 0, 0}, {0, MIN, 0, 0, 0}, {0, 0, 0, 0, MAX}};
        for (int[] b : bad) {
            no("bad ghost", x.ghost(b[0], b[1], b[2], b[3], b[4]));
        }
        is("count(6)", x.count(6), 513);
        is("kind", x.count(40), 4);
        is("moan", x.count(30), 9);
        is("years", x.count(50), 999);
        is("kind", x.count(49), 0);
        sleeperIn(0, 0, 0);
        rota("9@0-0;0@1-0", 2);
        is("live", x.live(), 7);
        is("sighs", x.soFar(29), 1);
        is("wages", x.soFar(39), 3);
        yes("in place", x.ghost(9, 0, 5, 1, 2));
        is("sighs", x.soFar(29), 0);
        is("wages", x.soFar(39), 0);
        is("wages of another", x.soFar(30), 3);
        is("all wages", x.soFar(1), 6);
        is("all sighs", x.soFar(2), 1);
        is("moan", x.count(39), 5);
    }

    private void feed() {
        fresh();
        for (int i = 1; i <= 11; i++) {
            is("feed " + i, x.feed(1, 2, 3, 4, 5), 20 * i);
        }
        is("feed 12", x.feed(1, 2, 3, 4, 5), -1);
        is("count(2)", x.count(2), 220);
        is("check", x.check(10), 0);
        is("count(2)", x.count(2), 0);
        is("order", x.feed('0' << 24 | '@' << 16 | '6' << 8 | '-', '1' << 24 | '1' << 16 | '+' << 8 | ';', '1' << 24 | '@' << 16, 0, 0), 20);
        is("rota(7)", x.rota(7), 1);
        is("night", x.walk(0, 1), 6);
        is("room", x.walk(0, 2), 11);
        is("behind", x.feed(-1, 0, 0, 0, 0), 20);
        is("high byte", x.rota(1), -1000);
    }

    private void rota() {
        fresh();
        for (int n : new int[] {0, -1, 161, 1, MIN, MAX}) {
            is("rota " + n, x.rota(n), -1);
        }
        x.feed(0, 0, 0, 0, 0);
        is("more than fed", x.rota(21), -1);
        is("none", x.rota(0), -1);
        is("the tape stays", x.count(2), 20);
        is("fault", x.rota(20), -1000);
        is("empty", x.count(2), 0);
        rota("3@4-11+;3@4-7;0@0-00", 3);
        rota("3@4-11++", -1007);
        is("the one before stays", x.count(0), 3);
        is("and its rooms", x.walk(1, 2), 7);
        rota("", -1);
        fresh();
        String[] texts = {"a", ":@0-0", "0", "0a0-0", "0@7-0", "0@-0", "0@0+0", "0@0-", "0@0-a", "0@0-1a", "0@0-01a", "0@0-1;", "0@0-1;a",
            "0@0-1+1", "0@0-1+a", "0@0-1;;", "0@0-12", "0@0-20", "0@0-123", "0@0-99+", "0@0-10;1@2-13", "0@0-111", " 0@0-1", "0@0-+", "0@0-1 ",
            "/@0-0", "0@0-/", "0@0-1/"};
        int[] faults = {-1000, -1000, -1001, -1001, -1002, -1002, -1003, -1004, -1004, -1005, -1006, -1006, -1006, -1006, -1006, -1006,
            -3004, -3004, -3004, -3004, -3011, -1006, -1000, -1004, -1005, -1000, -1004, -1005};
        for (int i = 0; i < texts.length; i++) {
            rota(texts[i], faults[i]);
            is("empty", x.count(2), 0);
        }
        is("none yet", x.count(0), 0);
        rota(times(15, "0@0-0;") + "9@6-09", 16);
        is("last", x.walk(15, 2), 9);
        rota(times(16, "0@0-0;"), -1096);
        rota(times(16, "0@0-0;") + "9", -4096);
        rota(times(16, "0@0-0;") + ";", -1096);
        rota(times(16, "0@0-11+;").substring(0, 127), 16);
        rota(times(15, "0@0-11+;") + "0@0-1" + times(35, "+"), -1126);
        x.feed(0, 0, 0, 0, 0);
        for (int i = 0; i < 10; i++) {
            x.feed(0, 0, 0, 0, 0);
        }
        is("161 of 220", x.rota(161), -1);
        is("stays", x.count(2), 220);
        is("160 of 220", x.rota(160), -1000);
        is("all gone", x.count(2), 0);
    }

    private void law() {
        fresh();
        for (int n : new int[] {0, -1, 201, 1, MIN, MAX}) {
            is("law " + n, x.law(n), -1);
        }
        x.feed(0, 0, 0, 0, 0);
        is("more than fed", x.law(21), -1);
        is("stays", x.count(2), 20);
        is("fault", x.law(2), -1000);
        is("empty", x.count(2), 0);
        law("k(r=0);f5(1<2);w[r+3]*2(!(1=2)|n>t&3=3)", 3);
        law("k(r=0)k", -1006);
        is("the one before stays", x.count(1), 3);
        fresh();
        String[] texts = {"a(1=1)", "K(1=1)", "k", "k1(1=1)", "f(1=1)", "f", "f1", "f+1(1=1)", "f1+(1=1)", "f1++1(1=1)", "f1=1(1=1)", "f1[1](1=1)",
            "f12345(1=1)", "f123456(1=1)", "f123456", "f12345a", "fr1(1=1)", "frr(1=1)", "f1r(1=1)", "k()", "k(1)", "k(1=)", "k(1=1", "k(1=1=1)",
            "k(1=1&)", "k(1=1|)", "k(|1=1)", "k((1=1)", "k((1=1)+1=2)", "k([1=1])", "k([1]=1)", "k([1=1)", "k(!1)", "k(!!1=1)", "k(1!1)", "k(1==1)",
            "k(1<>1)", "k(1=1);", "k(1=1);;", "k(1=1),", "k(a=1)", "k(d=1)", "k(z=1)", "k(r n)", "k(1=1))", "k((1=1)(1=1))", "f[](1=1)", "f[1(1=1)",
            "f1](1=1)", "k(1=1&&1=1)", "k(1=1&!1=1|(1=1))", "k(-1=1)", "k(1=-1)", "f00000(0=00001)", "k(1=1) ", "fr/[0](1=1)", "k{1=1)", "k(`=1)"};
        int[] wants = {-1000, -1000, -1001, -1001, -1001, -1001, -1002, -1001, -1003, -1003, -1002, -1002,
            1, -2006, -2006, -1006, -1002, -1002, -1002, -1002, -1003, -1004, -1005, -1005,
            -1006, -1006, -1002, -1007, -1007, -1004, 1, -1004, -1004, 1, -1003, -1004,
            -1004, -1007, -1007, -1006, -1002, -1002, -1002, -1003, -1006, -1007, -1002, -1003,
            -1002, -1006, 1, -1002, -1004, 1, -1006, 1, -1001, -1002};
        for (int i = 0; i < texts.length; i++) {
            law(texts[i], wants[i]);
            is("empty", x.count(2), 0);
        }
        law(times(13, "k(1=1);") + "q0(1=1)", 14);
        law(times(14, "k(1=1);"), -1098);
        law(times(14, "k(1=1);") + "k", -4098);
        law(times(14, "k(1=1);") + "q(", -4098);
        law(times(14, "k(1=1);") + "r", -1098);
        law(times(14, "k(1=1);") + ";", -1098);
        law(times(14, "k(1=1);").substring(0, 97) + "k", -1097);
        law("k(1=1" + times(48, "&1=1") + "|1)", -1199);
        law("k(1" + times(96, "+1") + "=1)" + "a", -1198);
        law("k(1" + times(95, "+1") + "=00001)", 1);
        law("f1" + times(96, "+1") + "(1=1)", 1);
    }

    private void lawFaultsOfDepth() {
        fresh();
        law("k((((((1=1))))))", 1);
        law("k(((((((1=1)))))))", -5007);
        law("k(((((((", -5007);
        law("k(!!!!!1=1)", 1);
        law("k(!!!!!!1=1)", -5007);
        law("k(!!!!![1]=1)", -5007);
        law("k(!!!!1=1&!!!!!1=1)", 1);
        law("k(!(!(!1=1)))", 1);
        law("k(!(!(![1]=1)))", -5007);
        law("k(!!!!(1=1)&[1]=1&(1=1)|!1=1)", 1);
        law("f[[[[[[1]]]]]](1=1)", 1);
        law("f[[[[[[[1]]]]]]](1=1)", -5007);
        law("f[1]+[2]*[[3]](([[[[1]]]]=1))", 1);
        law("f1(([[[[[1]]]]]=1))", -5008);
        law("f1(1=[[[[[1]]]]])", 1);
        law("f1(1=[[[[[[1]]]]]])", -5010);
        law("k(((((((=", -5007);
        law("k((((((=", -1007);
        law("k((((((1=1)))))))", -1016);
    }

    private void walk() {
        fresh();
        rota("0@0-5+;1@3-11;0@0-6;0@1-0;2@6-09", 5);
        int[][] want = {{0, 0, 5, 1, 0}, {1, 3, 11, 0, 0}, {0, 0, 6, 0, 0}, {0, 1, 0, 0, 0}, {2, 6, 9, 0, 0}};
        for (int i = 0; i < 5; i++) {
            for (int what = 0; what < 5; what++) {
                is("walk " + i + " " + what, x.walk(i, what), want[i][what]);
            }
            is("walk what -1", x.walk(i, -1), -1);
            is("walk what 5", x.walk(i, 5), -1);
        }
        for (int i : new int[] {-1, 5, 16, MIN, MAX}) {
            is("walk " + i, x.walk(i, 0), -1);
        }
        x.ghost(0, 0, 0, 0, 0);
        is("counts", x.walk(0, 4), 1);
        is("second of its night", x.walk(2, 4), 0);
        is("another night", x.walk(3, 4), 1);
        is("not told", x.walk(1, 4), 0);
    }

    private void fright() {
        fresh("k(v<5);k(p=9);fm*10(h=0);f3000(h=1)");
        x.ghost(0, 0, 4, 0, 0);
        x.ghost(1, 0, 4, 0, 0);
        sleeperIn(0, 4, 2);
        sleeperIn(1, 5, 2);
        sleeperIn(9, 5, 2);
        is("holds", x.fright(0, 0, 0, 2, 0), 40);
        is("above the bound", x.fright(0, 0, 0, 2, 1), 99);
        is("k does not hold", x.fright(0, 1, 0, 2, 0), -2);
        is("any k", x.fright(0, 9, 0, 2, 0), 40);
        is("another room", x.fright(0, 0, 0, 3, 0), -2);
        x.sleeps(0, 6, 7, -1);
        is("away", x.fright(0, 0, 6, 2, 0), -2);
        int[][] bad = {{2, 0, 0, 0, 0}, {-1, 0, 0, 0, 0}, {10, 0, 0, 0, 0}, {0, 2, 0, 0, 0}, {0, -1, 0, 0, 0}, {0, 10, 0, 0, 0},
            {0, 0, -1, 2, 0}, {0, 0, 7, 2, 0}, {0, 0, 0, -1, 0}, {0, 0, 0, 12, 0}, {0, 0, 0, 2, -1}, {0, 0, 0, 2, 2}, {MAX, MIN, MAX, MIN, MAX}};
        for (int[] b : bad) {
            is("no such", x.fright(b[0], b[1], b[2], b[3], b[4]), -1);
        }
        law("k(1=1);f1-2(1=1)", 2);
        is("below 0", x.fright(0, 0, 0, 2, 0), 0);
        law("k(1=1)", 1);
        is("no f", x.fright(0, 0, 0, 2, 0), 0);
        law("f5(1=1)", 1);
        is("no k", x.fright(0, 0, 0, 2, 0), -2);
        law("k(1=1);f5(1=2);f6(2=2);f7(3=3)", 4);
        is("the first that holds", x.fright(0, 0, 0, 2, 0), 6);
        law("k(1=1);f5/0(1=1);f6(2=2)", 3);
        is("refused is 0", x.fright(0, 0, 0, 2, 0), 0);
        law("k(1=1);f5(1/0=1);f6(2=2)", 3);
        is("a refused C does not hold", x.fright(0, 0, 0, 2, 0), 6);
        law("k(1=1);f9+[1/0]*0(1=1)", 2);
        is("all of the E is 0", x.fright(0, 0, 0, 2, 0), 0);
    }

    private void kinds() {
        fresh("k(1=1);f10*r+t+o(1=1)");
        for (int kind = 0; kind < 5; kind++) {
            x.ghost(kind, kind, 1, 1, 1);
        }
        sleeperIn(0, 1, 5);
        sleeperIn(1, 1, 6);
        sleeperIn(2, 1, 6);
        sleeperIn(3, 1, 0);
        sleeperIn(4, 1, 11);
        x.cats(5, 3);
        x.cats(6, 7);
        is("plain", x.fright(0, 0, 0, 5, 0), 54);
        is("plain next door", x.fright(0, 0, 0, 6, 0), -2);
        is("shy, alone", x.fright(1, 0, 0, 5, 0), 54);
        is("shy, two", x.fright(1, 1, 0, 6, 0), -2);
        is("loud, above", x.fright(2, 0, 0, 6, 0), 54);
        is("loud, below", x.fright(2, 1, 0, 5, 0), 69);
        is("loud, here", x.fright(2, 1, 0, 6, 0), 69);
        is("loud, two off", x.fright(2, 1, 0, 4, 0), -2);
        is("loud, two off", x.fright(2, 0, 0, 7, 0), -2);
        is("loud, no ring", x.fright(2, 3, 0, 11, 0), -2);
        is("loud, no ring", x.fright(2, 4, 0, 0, 0), -2);
        is("draught", x.fright(3, 0, 0, 5, 0), -2);
        is("draught with a chain", x.fright(3, 0, 0, 5, 1), -2);
        is("chained without", x.fright(4, 0, 0, 5, 0), -2);
        is("chained with", x.fright(4, 0, 0, 5, 1), 54);
        x.sleeps(1, 3, 4, -1);
        is("shy, alone that night", x.fright(1, 2, 3, 6, 0), 68);
        x.sleeps(0, 3, 4, -1);
        is("nobody is where all the away are", x.fright(2, 0, 3, 5, 0), -2);
    }

    /** E is looked at by f, with 50 more so that small numbers below 0 are seen. */
    private void reckons(String e, int want) {
        law("k(1=1);f50+[" + e + "](1=1)", 2);
        is(e, x.fright(3, 7, 4, 8, 1), 50 + want);
    }

    private void holds(String c, int want) {
        law("k(" + c + ")", 1);
        is(c, x.fright(3, 7, 4, 8, 1), want == 1 ? 0 : -2);
    }

    private void reckoning() {
        fresh();
        x.ghost(3, 0, 6, 5, 29);
        sleeperIn(7, 2, 8);
        sleeperIn(1, 0, 8);
        x.cats(8, 9);
        String letters = "rntgmcyhpvol";
        int[] values = {8, 4, 9, 3, 6, 5, 29, 1, 7, 2, 2, 0};
        for (int i = 0; i < values.length; i++) {
            reckons("" + letters.charAt(i), values[i]);
        }
        String[] es = {"7-2-3", "20-2*3", "2*3-20", "20/3*2", "20%7%4", "2+3*4", "[2+3]*4", "[1-8]/2", "[1-8]%4", "7/[1-3]", "7%[1-4]", "10-[3-[2-1]]",
            "00042", "9%5*3", "100/7/2", "1-2+3", "[[2]]"};
        int[] wants = {2, 14, -14, 12, 2, 14, 20, -3, -3, -3, 1, 8, 42, 12, 7, 2, 2};
        for (int i = 0; i < es.length; i++) {
            reckons(es[i], wants[i]);
        }
        // 99999 * 99999 is 1409865409 with 32 bits; 65536 * 32768 is the least number, and by -1 it stays so
        holds("99999*99999=14098*10000*10+65409", 1);
        holds("65536*32768<0", 1);
        holds("65536*32768/[0-1]=65536*32768", 1);
        holds("65536*32768%[0-1]=0", 1);
        holds("65536*32768-1>0", 1);
        String[] cs = {"1<2", "2<1", "1<1", "2>1", "1>2", "1>1", "1=1", "1=2", "!1=2", "!1=1", "!!1=1", "1=1&2=2", "1=1&2=3", "1=2&2=2", "1=2|2=2",
            "1=1|2=3", "1=2|2=3", "1=2&1=1|1=1", "1=1|1=1&1=2", "(1=1|1=1)&1=2", "!1=2&1=1", "!(1=2&1=1)", "!1=1|1=1",
            "1/0=1", "!1/0=1", "!(1/0=1)", "(1/0=1)|1=1", "1=1|1/0=1", "1=2&1/0=1|1=1", "1=1&1/0=1|1=1", "1=1&(1=1|1%0=1)", "1%0=0", "!1%0=0",
            "1=2|1/0=1", "1/[1-1]=1|1=1", "0*[1/0]=0", "1=2&1/0=1", "!(1=2&1/0=1)", "(1=2|(1=1|1/0=0))&2=2", "1=1&2=2&3=3", "1=1&2=2&3=4",
            "1=2|2=3|3=3", "1=2|2=3|3=4", "1=1&1=2&1/0=1|2=2", "1=2|2=2|1/0=1"};
        int[] hold = {1, 0, 0, 1, 0, 0, 1, 0, 1, 0, 1, 1, 0, 0, 1,
            1, 0, 1, 1, 0, 1, 1, 1,
            0, 0, 0, 0, 1, 1, 0, 1, 0, 0,
            0, 0, 0, 0, 1, 1, 1, 0,
            1, 0, 1, 1};
        for (int i = 0; i < cs.length; i++) {
            holds(cs[i], hold[i]);
        }
        law("k(1/0=1);k(1=1)", 2);
        is("the next k", x.fright(3, 7, 4, 8, 1), 0);
        law("f1(1=1);f99(1=1);k(1=1)", 3);
        is("order of kinds is free", x.fright(3, 7, 4, 8, 1), 1);
    }

    private void week() {
        fresh("k(1=1);fm(1=1);w100*g+10*r+t+c+p+v+o+l(1=1)");
        x.ghost(0, 0, 2, 1, 10);
        x.ghost(1, 2, 3, 2, 20);
        x.ghost(2, 0, 4, 3, 20);
        sleeperIn(0, 5, 1);
        sleeperIn(3, 5, 2);
        x.cats(1, 4);
        rota("0@0-1;1@0-1;2@0-1;2@6-2;5@6-2;0@6-2;0@6-1", 7);
        // night 0: 1 and 2 are as old, so that 1 alone walks; night 6: 2 walks, 0 stands; 5 is not told
        is("fright", x.week(0), 3 + 3 + 4);
        is("wages", x.week(1), 116 + 223);
        is("sighs", x.week(2), 3);
        is("strikes", x.week(3), 0);
        is("stood", x.week(4), 3);
        is("sleeper 0", x.week(10), 3);
        is("sleeper 3", x.week(13), 7);
        is("not told", x.week(11), -1);
        is("sighs of 0", x.week(20), 0);
        is("sighs of 1", x.week(21), 2);
        is("sighs of 2", x.week(22), 1);
        is("sighs not told", x.week(25), -1);
        is("wages of 1", x.week(31), 116);
        is("wages of 2", x.week(32), 223);
        is("wages of 0", x.week(30), 0);
        is("wages not told", x.week(35), -1);
        is("night 0", x.week(40), 6);
        is("night 0", x.week(40), x.week(0) - 4);
        is("night 6", x.week(46), 4);
        is("night 1", x.week(41), 0);
        x.allSouls(6);
        is("all souls", x.week(1), 116 + 446);
        is("all souls", x.week(32), 446);
        for (int what : new int[] {-1, 5, 6, 9, 19, 29, 39, 47, 48, 100, MIN, MAX}) {
            is("week " + what, x.week(what), -1);
        }
        is("nothing is changed", x.count(3), 1);
        is("nothing is changed", x.soFar(0), 0);
        law("k(1=1);w9999(1=1)", 2);
        is("bound", x.week(31), 999);
        is("bound, then twice", x.week(32), 1998);
        x.ghost(5, 0, 0, 0, 999);
        is("told now: it claims", x.week(35), 1998);
        is("and 2 stands", x.week(4), 4);
    }

    private void weekByCats() {
        // the draws are 2, 7, 6, 5 (X: 39022, 61087, 20196, 45005)
        fresh("k(1=1);f1(1=1);zt(1=1)");
        for (int g = 0; g < 4; g++) {
            x.ghost(g, 0, 0, 0, g);
        }
        sleeperIn(0, 0, 0);
        rota("0@3-0;1@1-0;2@1-0;3@0-0;2@3-5;3@6-0", 6);
        // in the order of nights: 3@0, 2@1 (1 stands without a draw), 0@3, 2@3, 3@6: five draws, the fifth is 2 (X 3882)
        is("no cats", x.week(3), 0);
        is("stood", x.week(4), 1);
        x.cats(0, 3);
        is("2 is below 3", x.week(3), 2);
        is("and night 6", x.week(46), 0);
        is("night 0", x.week(40), 0);
        is("night 1", x.week(41), 1);
        x.cats(0, 7);
        // 2 < 7 a strike, 7 not, 6 < 7 a strike, room 5 no cats, the fifth draw
        is("6 is below 7", x.week(3), 3);
        is("night 3", x.week(43), 0);
        is("night 1", x.week(41), 1);
        is("live", x.live(), x.soFar(0));
        is("X", x.count(3), 3882);
        is("strikes so far", x.soFar(3), 3);
        law("k(1=1);f1(1=1);z99(1=1)", 3);
        is("ten tenths", x.week(3), 5);
        law("k(1=1);f1(1=1);z0-5(1=1)", 3);
        is("no tenths", x.week(3), 0);
    }

    private void weekChains() {
        fresh("k(1=1);f1+4*h(1=1);w2+h(1=1);z10*h(m=9)");
        x.ghost(0, 4, 0, 0, 5);
        x.ghost(1, 4, 0, 0, 4);
        x.ghost(2, 0, 0, 0, 3);
        sleeperIn(0, 0, 0);
        sleeperIn(1, 0, 1);
        rota("1@0-0+;0@0-0+;2@0-1+;0@1-0+;1@1-1;2@2-0+", 6);
        is("no chains", x.week(0), 2);
        is("no chains", x.week(1), 2 * 5);
        x.chains(1);
        // night 0: 1 has the chain and stands; 0 has none and frightens nobody; 2 frightens 1
        is("night 0", x.week(40), 1);
        is("night 1", x.week(41), 5);
        is("night 2", x.week(42), 5);
        is("stood", x.week(4), 1);
        is("wages", x.week(1), 2 + 2 + 3 + 2 + 3);
        x.chains(2);
        is("night 0", x.week(40), 5 + 1);
        x.chains(3);
        is("night 0", x.week(40), 5 + 5);
        x.ghost(0, 4, 9, 0, 5);
        x.chains(2);
        is("who struck keeps it", x.week(40), 1);
        is("strikes", x.week(3), 2);
        x.chains(9);
        is("walks without + have none", x.week(41), 0);
    }

    private void live() {
        fresh("k(1=1);f3(1=1);w2(1=1)");
        is("live of nothing", x.live(), 0);
        is("weeks", x.soFar(5), 1);
        is("X stays", x.count(3), 1);
        x.ghost(0, 0, 0, 0, 0);
        sleeperIn(0, 0, 0);
        sleeperIn(1, 0, 0);
        rota("0@0-0;0@5-0", 2);
        is("live", x.live(), 12);
        is("X", x.count(3), 61087);
        is("live", x.live(), 12);
        is("X", x.count(3), 45005);
        is("weeks", x.soFar(5), 3);
        is("fright", x.soFar(0), 24);
    }

    private void soFar() {
        fresh("k(v<5);f3(1=1);w2(1=1);zt(1=1)");
        x.ghost(0, 0, 0, 0, 1);
        x.ghost(1, 0, 0, 0, 0);
        x.ghost(2, 0, 0, 0, 0);
        sleeperIn(0, 0, 0);
        sleeperIn(1, 9, 0);
        x.cats(3, 9);
        rota("0@0-0;1@0-0;2@1-3", 3);
        x.live();
        x.seed(1);
        x.live();
        int[] want = {6, 4, 2, 2, 2, 2};
        for (int what = 0; what < want.length; what++) {
            is("soFar " + what, x.soFar(what), want[what]);
        }
        is("10", x.soFar(10), 6);
        is("11", x.soFar(11), 0);
        is("12", x.soFar(12), -1);
        is("20", x.soFar(20), 2);
        is("21", x.soFar(21), 0);
        is("23", x.soFar(23), -1);
        is("30", x.soFar(30), 4);
        is("31", x.soFar(31), 0);
        is("33", x.soFar(33), -1);
        for (int what : new int[] {-1, 6, 7, 8, 9, 40, 41, 46, 47, MIN, MAX}) {
            is("soFar " + what, x.soFar(what), -1);
        }
    }

    private void once() {
        fresh("k(p<3);k(g=4)");
        is("none told", x.once(1, -1), -3);
        x.ghost(1, 0, 0, 0, 0);
        x.ghost(2, 0, 0, 0, 0);
        x.ghost(4, 0, 0, 0, 0);
        sleeperIn(0, 0, 2);
        sleeperIn(1, 0, 3);
        sleeperIn(2, 0, 3);
        sleeperIn(3, 0, 3);
        int[][] bad = {{0, -1}, {0, 1}, {16, -1}, {31, 1}, {MIN, -1}, {-1, -1}, {1, 0}, {1, 3}, {1, 10}, {1, -2}, {1, MAX}};
        for (int[] b : bad) {
            is("once " + b[0] + " " + b[1], x.once(b[0], b[1]), -3);
        }
        is("one", x.once(1, -1), 1);
        is("first ghost", x.once(1, 1), 2);
        is("stays in", x.once(1, 2), 84);
        is("two", x.once(7, -1), 2);
        is("night 0, room 2", x.once(7, 1), 2);
        is("night 0, room 3", x.once(7, 2), 3);
        is("the third stays in", x.once(7, 4), 84);
        is("4 frightens 3 too", x.once(15, -1), 2);
        is("all", x.once(15, 1), 2);
        is("all", x.once(15, 2), 84);
        is("all", x.once(15, 4), 3);
        is("0 and 3, one each", x.once(9, -1), 2);
        is("others as may be", x.once(8, -1), 1);
        is("others as may be", x.once(8, 4), 3);
        law("k(1=1)", 1);
        x.sleeps(2, 0, 7, 9);
        x.sleeps(1, 0, 3, -1);
        is("a later night", x.once(2, 1), 12 * 3 + 3);
        x.sleeps(1, 0, 7, -1);
        is("away all week", x.once(2, -1), -2);
        is("away all week", x.once(2, 1), -2);
        is("no such ghost ahead of it can't be", x.once(2, 0), -3);
        x.ghost(1, 3, 0, 0, 0);
        x.ghost(2, 4, 0, 0, 0);
        is("draughts and chained do not", x.once(1, 1), 84);
        is("draughts and chained do not", x.once(1, 4), 2);
        is("three rooms, one ghost", x.once(13, -1), -2);
        overlapping();
    }

    /** Two in a room are no matter if each frightens another; a loud one must not frighten twice. */
    private void overlapping() {
        fresh("k(g=p)");
        x.ghost(0, 0, 0, 0, 0);
        x.ghost(1, 0, 0, 0, 0);
        sleeperIn(0, 0, 5);
        sleeperIn(1, 0, 5);
        is("two in one room", x.once(3, -1), 2);
        is("two in one room", x.once(3, 0), 5);
        is("two in one room", x.once(3, 1), 5);
        fresh("k(1=1)");
        x.ghost(0, 2, 0, 0, 0);
        x.ghost(1, 2, 0, 0, 0);
        sleeperIn(0, 0, 0);
        sleeperIn(1, 0, 2);
        sleeperIn(2, 0, 4);
        is("loud", x.once(7, -1), 2);
        is("loud: 0 alone, then both others", x.once(7, 0), 0);
        is("loud", x.once(7, 1), 3);
        is("one that reaches two", x.once(3, 0), 1);
        is("one that reaches two", x.once(3, 1), 84);
    }

    private void bestWalk() {
        fresh("k(1=1);fm+10*h(n<4);f2*m(1=1)");
        is("not told", x.bestWalk(0, 0), -1);
        x.ghost(0, 0, 3, 0, 0);
        x.ghost(1, 2, 1, 0, 0);
        x.ghost(2, 4, 1, 0, 0);
        is("nobody: the first night", x.bestWalk(0, 0), 0);
        is("nobody: the first room", x.bestWalk(0, 1), 0);
        is("nobody", x.bestWalk(0, 2), 0);
        sleeperIn(0, 0, 5);
        sleeperIn(1, 0, 7);
        is("night", x.bestWalk(0, 0), 4);
        is("room", x.bestWalk(0, 1), 5);
        is("fright", x.bestWalk(0, 2), 6);
        is("loud between", x.bestWalk(1, 1), 6);
        is("loud between", x.bestWalk(1, 2), 4);
        is("chained", x.bestWalk(2, 2), 0);
        is("chained", x.bestWalk(2, 0), 0);
        for (int what : new int[] {-1, 3, MIN, MAX}) {
            is("what", x.bestWalk(0, what), -1);
        }
        is("ghost -1", x.bestWalk(-1, 0), -1);
        is("ghost 10", x.bestWalk(10, 0), -1);
        rota("0@6-11", 1);
        is("it has one", x.bestWalk(0, 0), -1);
        is("another has none", x.bestWalk(1, 0), 4);
        rota("1@6-5;1@6-6", 2);
        is("has none now", x.bestWalk(0, 2), 6);
        is("claims are not looked at", x.bestWalk(0, 1), 5);
    }

    private void candle() {
        fresh("k(1=1)");
        x.ghost(1, 1, 0, 0, 0);
        x.ghost(3, 2, 0, 0, 0);
        x.ghost(4, 0, 0, 0, 0);
        x.ghost(5, 4, 0, 0, 0);
        x.ghost(9, 0, 0, 0, 0);
        sleeperIn(0, 0, 4);
        sleeperIn(1, 0, 6);
        sleeperIn(2, 0, 6);
        // loud 3: room 3, 4 frighten 0; room 5 all; rooms 6, 7 frighten 1 and 2
        int[][] want = {{1, 5, 1, 4, 538}, {6, 4, 3, 6, 536}, {7, 1, 3, 5, 8}, {2, 0, -2, -2, 0}, {3, 0, -2, -2, 0}};
        for (int[] w : want) {
            for (int what = 0; what < 4; what++) {
                is("candle " + w[0] + " " + what, x.candle(2, w[0], what), w[1 + what]);
            }
        }
        int[][] bad = {{-1, 1, 0}, {7, 1, 0}, {0, 0, 0}, {0, 8, 0}, {0, 9, 0}, {0, -1, 0}, {0, MIN, 1}, {0, 1, -1}, {0, 1, 4}, {MAX, 1, 0}, {0, 1024, 0}};
        for (int[] b : bad) {
            is("candle " + b[0] + " " + b[1] + " " + b[2], x.candle(b[0], b[1], b[2]), -1);
        }
        x.sleeps(1, 2, 3, -1);
        x.ghost(0, 0, 0, 0, 0);
        x.sleeps(0, 5, 6, 0);
        is("ghost 0 in room 0", x.candle(5, 1, 1), 0);
        is("ghost 0 in room 0", x.candle(5, 1, 2), 0);
        is("ghost 0 in room 0", x.candle(5, 1, 0), 6);
        x.ghost(0, 3, 0, 0, 0);
        is("shy now", x.candle(2, 4, 3), 538);
        is("another night", x.candle(3, 4, 0), 0);
    }

    private void draughts() {
        fresh("k(1=1);f0(1=1);w5(g<4)");
        is("none", x.draughts(), 0);
        for (int g = 0; g < 6; g++) {
            x.ghost(g, g == 2 ? 3 : 0, 0, 0, 0);
        }
        sleeperIn(0, 0, 0);
        rota("0@0-0;1@0-5;2@1-0;3@2-7;4@3-5;3@4-0", 6);
        is("not yet", x.draughts(), 0);
        x.live();
        // 0 and 3 frightened (by 0), 4 has drawn nothing, 5 did not walk
        is("two", x.draughts(), 1 << 1 | 1 << 2);
        x.ghost(1, 0, 0, 0, 0);
        is("in place", x.draughts(), 1 << 2);
        fresh("w1(1=1)");
        x.ghost(0, 0, 0, 0, 0);
        rota("0@0-0", 1);
        x.live();
        is("a halfpenny", x.draughts(), 1);
    }

    private void mended() {
        fresh("k(1=1);fm(1=1)");
        is("none told", x.mended(0, 0), -100000);
        is("none told", x.mended(0, 1), -100000);
        is("none told", x.mended(0, 2), -100000);
        x.ghost(1, 0, 3, 0, 9);
        x.ghost(2, 0, 9, 0, 0);
        x.ghost(4, 0, 1, 0, 0);
        x.ghost(6, 0, 1, 0, 0);
        sleeperIn(0, 0, 0);
        sleeperIn(1, 0, 1);
        sleeperIn(2, 0, 1);
        is("like ones", x.mended(0, 1), 1);
        is("like ones", x.mended(0, 2), 0);
        rota("1@0-0;2@1-1;4@2-1;6@3-1;4@0-0", 5);
        is("one sleeper", x.mended(1, 0), 1);
        is("9 already", x.mended(2, 0), 0);
        is("two sleepers", x.mended(4, 0), 2);
        is("the lowest of like ones", x.mended(0, 1), 4);
        is("by", x.mended(-7, 2), 2);
        is("not told", x.mended(0, 0), -100000);
        for (int what : new int[] {-1, 3, MIN, MAX}) {
            is("what", x.mended(1, what), -100000);
        }
        is("ghost 10", x.mended(10, 0), -100000);
        law("k(1=1);f5-m(1=1)", 2);
        is("below 0", x.mended(1, 0), -1);
        is("9 is best", x.mended(1, 1), 2);
        is("9 is best", x.mended(1, 2), 0);
        law("k(1=1);f5(1=1);z10(m>3)", 3);
        is("a strike then", x.mended(1, 0), -5);
        is("a strike then", x.mended(1, 2), 0);
        x.ghost(0, 0, 2, 0, 99);
        law("k(1=1);fm(1=1)", 2);
        rota("0@0-0", 1);
        is("ghost 0", x.mended(0, 0), 1);
        is("ghost 0", x.mended(5, 1), 0);
        is("ghost 0", x.mended(5, 2), 1);
        rota("1@0-0", 1);
        is("moan stays", x.count(31), 3);
        is("X stays", x.count(3), 1);
    }

    private void mend() {
        fresh();
        is("not told", x.mend(0), -1);
        x.ghost(0, 1, 7, 0, 0);
        is("8", x.mend(0), 8);
        is("9", x.mend(0), 9);
        is("no more", x.mend(0), -1);
        is("count", x.count(30), 9);
        for (int g : new int[] {-1, 1, 10, MIN, MAX}) {
            is("mend " + g, x.mend(g), -1);
        }
    }

    private void shared() {
        fresh("k(1=1);fm+c*h(1=1)");
        for (int g = 0; g < 4; g++) {
            x.ghost(g, g == 3 ? 4 : 0, 2, 3, g);
        }
        x.ghost(5, 0, 2, 0, 0);
        sleeperIn(0, 0, 0);
        sleeperIn(1, 0, 1);
        sleeperIn(2, 0, 1);
        x.cats(0, 9);
        rota("3@2-1;2@2-0+;1@2-0;0@2-5;5@2-0;1@3-1;2@2-1", 7);
        int[] ghosts = {0, 8, 8 | 2, 8 | 4 | 2, 8 | 4 | 2};
        int[] fright = {6, 16, 19, 22, 22};
        for (int chains = 0; chains < 5; chains++) {
            x.chains(chains);
            is("ghosts " + chains, x.shared(2, 0), ghosts[chains]);
            is("fright " + chains, x.shared(2, 1), fright[chains]);
        }
        is("another night", x.shared(3, 0), 2);
        is("another night", x.shared(3, 1), 10);
        is("no walks", x.shared(0, 0), 0);
        is("no walks", x.shared(0, 1), 0);
        law("k(1=1);f9-5*h(1=1)", 2);
        is("worse with a chain", x.shared(3, 0), 0);
        law("k(!g=3);f9+h(g=5|g=0);f9(1=1)", 3);
        is("a little, fewest chains", x.shared(2, 0), 32);
        is("a little", x.shared(2, 1), 9 * 3 + 1);
        x.chains(1);
        law("k(!g=3);f9+h(g=5|g=1);f9(1=1)", 3);
        is("the lower of like ones", x.shared(2, 0), 2);
        law("k(1=1);f9-5*h(1=1)", 2);
        is("worse with a chain", x.shared(3, 1), 18);
        int[][] bad = {{-1, 0}, {7, 0}, {0, -1}, {0, 2}, {MIN, 0}, {MAX, 1}, {0, MAX}};
        for (int[] b : bad) {
            is("shared " + b[0] + " " + b[1], x.shared(b[0], b[1]), -1);
        }
    }

    private void july() {
        fresh();
        is("nothing is worth", x.july(8, -1), 0);
        for (int l = 0; l < 8; l++) {
            is("the least row", x.july(8, l), l);
        }
        for (int n : new int[] {0, 9, -1, MIN, MAX}) {
            is("july " + n, x.july(n, -1), -1);
            is("july " + n, x.july(n, 99), -1);
        }
        for (int what : new int[] {2, 7, 8, -2, 12, MIN, MAX}) {
            is("no such lodger", x.july(2, what), -2);
        }
        law("q100-10*c+t+n+g+m+y+h+p+v+o(r=3|r=5|r=11);q9999(r=2&l=1);q0-5(r<2)", 3);
        is("bound", x.july(2, 1), 2);
        is("one", x.july(2, 0), 3);
        is("together", x.july(2, -1), 1099);
        x.cats(11, 7);
        is("cats", x.july(2, 0), 11);
        is("cats", x.july(2, -1), 1106);
        x.ghost(0, 0, 0, 4, 0);
        x.ghost(1, 0, 0, 3, 0);
        x.ghost(2, 0, 0, 9, 0);
        rota("2@3-0;0@0-11;0@1-11;1@1-11;2@3-3;7@0-5", 6);
        // room 11 is 7 cold (0 but once), room 3 is not cold (2's walk there does not count), 7 is not told
        is("cold", x.july(1, 0), 3);
        is("both", x.july(4, -1), 100 + 999 + 100 + 37);
        is("row", x.july(4, 0), 3);
        is("row", x.july(4, 1), 2);
        is("row", x.july(4, 2), 5);
        is("row", x.july(4, 3), 11);
        law("q9-l(r=0)", 1);
        is("room 0", x.july(2, -1), 9);
        is("room 0", x.july(2, 0), 0);
        is("room 0", x.july(2, 1), 1);
        law("q50-c(r=0)", 1);
        is("the first walk's room is cold", x.july(1, -1), 50 - 9);
        law("ql*r(1=1)", 1);
        is("by lodgers", x.july(3, -1), 10 + 22);
        is("by lodgers", x.july(3, 0), 0);
        is("by lodgers", x.july(3, 1), 10);
        is("by lodgers", x.july(3, 2), 11);
        law("q5(r=4&l=0|r=4&l=1|r=6&l=0)", 1);
        is("gives way", x.july(2, -1), 10);
        is("gives way", x.july(2, 0), 6);
        is("gives way", x.july(2, 1), 4);
        law("q5/0(r=1);q4(r=1|r=2)", 2);
        is("refused is 0", x.july(1, 0), 2);
        law("q4(1/[r-2]>0);q3(1=1)", 2);
        is("refused C", x.july(1, -1), 4);
        is("refused C", x.july(1, 0), 3);
    }

    private void off() {
        fresh();
        is("not told", x.off(1, 1, 0), -1);
        x.ghost(1, 0, 0, 0, 6);
        x.ghost(3, 0, 0, 0, 3);
        x.ghost(8, 0, 0, 0, 999);
        // 6, 3 = 6/2 (1 is lower), 3, 2 = 6/3, ...
        int[] first = {1, 2, 2, 3, 4, 4};
        for (int d = 1; d <= 6; d++) {
            is("1 in " + d, x.off(2, d, 1), first[d - 1]);
            is("3 in " + d, x.off(2, d, 3), d - first[d - 1]);
        }
        is("one alone", x.off(1, 366, 1), 366);
        is("8 is none of them", x.off(2, 1, 8), -2);
        is("3 is none of them", x.off(1, 1, 3), -2);
        is("three", x.off(3, 100, 8), 100);
        is("three", x.off(3, 366, 1), 2);
        int[][] bad = {{0, 1, 1}, {4, 1, 1}, {-1, 1, 1}, {1, 0, 1}, {1, 367, 1}, {1, 1, 0}, {1, 1, -1}, {1, 1, 10}, {0, 1, 8}, {2, 0, 8}, {MAX, 1, 1}, {1, MIN, 1}};
        for (int[] b : bad) {
            is("off " + b[0] + " " + b[1] + " " + b[2], x.off(b[0], b[1], b[2]), -1);
        }
        x.ghost(0, 0, 0, 0, 999);
        is("ghost 0 is lower", x.off(2, 1, 0), 1);
        is("ghost 0 is lower", x.off(2, 1, 3), -2);
        fresh();
        x.ghost(1, 0, 0, 0, 0);
        x.ghost(3, 0, 0, 0, 0);
        is("no years: the lowest always", x.off(2, 10, 1), 10);
        is("no years", x.off(2, 10, 3), 0);
    }

    private void bids() {
        fresh();
        is("0, 0", x.bids(0, 0, 0), 1);
        is("0, 0", x.bids(0, 0, 1), 1);
        is("0, 0", x.bids(0, 0, 2), 1);
        // the first one holds it at like bids, from where the second does not gain by going above
        is("5, 3", x.bids(5, 3, 0), 4);
        is("5, 3", x.bids(5, 3, 1), 2);
        is("5, 3", x.bids(5, 3, 2), 2);
        is("20, 20", x.bids(20, 20, 0), 1);
        is("20, 20", x.bids(20, 20, 1), 9);
        is("20, 20", x.bids(20, 20, 2), 9);
        is("3, 9", x.bids(3, 9, 1), firstOf(3, 9, true));
        is("3, 9", x.bids(3, 9, 2), firstOf(3, 9, false));
        is("none: the second would go above 1, the first along, so up to 8 and 9", x.bids(0, 20, 0), countOf(0, 20));
        for (int a = 0; a <= 20; a++) {
            fresh();
            for (int b = 0; b <= 20; b++) {
                is("bids " + a + " " + b, x.bids(a, b, 0), countOf(a, b));
                is("bids " + a + " " + b, x.bids(a, b, 1), firstOf(a, b, true));
                is("bids " + a + " " + b, x.bids(a, b, 2), firstOf(a, b, false));
            }
        }
        int[][] bad = {{-1, 0, 0}, {0, -1, 0}, {21, 0, 0}, {0, 21, 0}, {0, 0, -1}, {0, 0, 3}, {MIN, MAX, 0}, {1, 1, MAX}};
        for (int[] b : bad) {
            is("bids " + b[0] + " " + b[1] + " " + b[2], x.bids(b[0], b[1], b[2]), -1);
        }
    }

    private static boolean calm(int a, int b, int x, int y) {
        int mine = x >= y ? a - x : 0;
        int its = y > x ? b - y : 0;
        for (int z = 1; z <= 9; z++) {
            if ((z >= y ? a - z : 0) > mine || (z > x ? b - z : 0) > its) {
                return false;
            }
        }
        return true;
    }

    private static int countOf(int a, int b) {
        int n = 0;
        for (int x = 1; x <= 9; x++) {
            for (int y = 1; y <= 9; y++) {
                n += calm(a, b, x, y) ? 1 : 0;
            }
        }
        return n;
    }

    private static int firstOf(int a, int b, boolean first) {
        for (int x = 1; x <= 9; x++) {
            for (int y = 1; y <= 9; y++) {
                if (calm(a, b, x, y)) {
                    return first ? x : y;
                }
            }
        }
        return -2;
    }

    private void fraction(String what, int night, int p, int above, int below) {
        is(what + ", above", x.odds(night, p, 0), above);
        is(what + ", below", x.odds(night, p, 1), below);
    }

    private void odds() {
        fresh("k(v<9);f0(1=1);zt(h=0);z2(1=1)");
        for (int g = 0; g < 7; g++) {
            x.ghost(g, g < 5 ? 2 : 0, 0, 0, g);
        }
        sleeperIn(0, 0, 1);
        sleeperIn(1, 9, 1);
        sleeperIn(2, 0, 9);
        x.cats(0, 5);
        x.cats(1, 4);
        x.cats(2, 6);
        rota("0@0-0;1@0-1;2@0-2;3@0-3;4@1-1;3@1-1;5@2-5;5@3-1+;6@4-0;6@5-1;5@5-1", 11);
        // all but 5/10 4/10 6/10 of a thousand, walk 3 does not reach
        fraction("three", 0, 0, 22, 25);
        fraction("k does not hold", 0, 1, 0, 1);
        fraction("not there", 0, 2, 0, 1);
        fraction("who stands does not draw", 1, 0, 3, 5);
        fraction("far off", 2, 0, 0, 1);
        fraction("no chain", 3, 0, 3, 5);
        x.chains(1);
        fraction("a chain", 3, 0, 4, 5);
        fraction("not next door", 4, 0, 0, 1);
        fraction("no walks", 6, 0, 0, 1);
        x.sleeps(0, 3, 4, -1);
        fraction("away", 3, 0, 0, 1);
        int[][] bad = {{-1, 0, 0}, {7, 0, 0}, {0, 3, 0}, {0, -1, 0}, {0, 10, 0}, {0, 0, -1}, {0, 0, 2}, {MIN, 0, 0}, {0, MAX, 0}, {0, 0, MAX}};
        for (int[] b : bad) {
            is("odds " + b[0] + " " + b[1] + " " + b[2], x.odds(b[0], b[1], b[2]), -1);
        }
        rota("0@0-0;1@0-1;2@0-2;3@0-3;4@0-4", 5);
        is("five", x.odds(0, 0, 0), -2);
        is("five", x.odds(0, 2, 1), -2);
        is("NONE ahead", x.odds(0, 3, 1), -1);
        rota("0@0-0;1@0-1;2@0-2;3@0-3;4@0-3", 5);
        fraction("one of five stands", 0, 0, 22, 25);
        law("k(1=1);z1(1=1)", 2);
        rota("0@0-0;1@0-1;2@0-2", 3);
        fraction("tenths", 0, 0, 999, 1000);
        law("k(1=1);z99(1=1)", 2);
        fraction("never", 0, 0, 0, 1);
        rota("3@0-5;0@0-5;1@0-0", 3);
        law("k(1=1);z4(1=1)", 2);
        fraction("behind one that stands", 0, 0, 3, 5);
        rota("2@0-0;1@0-1", 2);
        law("k(1=1);z99(g=2);z5(1=1)", 3);
        fraction("ten tenths and five", 0, 0, 1, 2);
        law("k(1=1)", 1);
        fraction("always", 0, 0, 1, 1);
        is("X stays", x.count(3), 1);
    }

    private void seed() {
        fresh();
        for (int n : new int[] {0, 65535, 7}) {
            yes("seed " + n, x.seed(n));
            is("X", x.count(3), n);
        }
        for (int n : new int[] {-1, 65536, MIN, MAX}) {
            no("seed " + n, x.seed(n));
        }
        is("X", x.count(3), 7);
        x.ghost(0, 0, 0, 0, 0);
        rota("0@0-0", 1);
        x.live();
        is("X", x.count(3), (25173 * 7 + 13849) % 65536);
        x.seed(65535);
        x.live();
        is("X", x.count(3), (int) ((25173L * 65535 + 13849) % 65536));
    }

    private void keepAndUndo() {
        fresh("k(1=1);f3(1=1);w2(1=1)");
        no("none was kept", x.undo());
        x.ghost(0, 0, 4, 0, 7);
        sleeperIn(0, 0, 0);
        rota("0@0-0;1@0-5", 2);
        x.cats(0, 1);
        x.chains(2);
        x.allSouls(3);
        x.live();
        x.seed(99);
        is("keep", x.keep(), 1);
        changeAll();
        is("weeks", x.soFar(5), 3);
        yes("undo", x.undo());
        is("the tape is not", x.count(2), 20);
        x.check(0);
        asKept();
        Texts.law(x, "k(v=0&c=0);f3(1=1);w2(1=1)");
        Texts.rota(x, "0@0-0");
        is("nerves and cold", x.week(0), 3);
        Texts.rota(x, "5@5-5");
        Texts.law(x, "k(1=2)");
        is("the rota is not", x.count(0), 1);
        is("the law is not", x.count(1), 1);
        is("the law is not", x.week(2), 0);
        changeAll();
        yes("undo once more", x.undo());
        asKept();
        is("keep", x.keep(), 1);
        x.live();
        is("keep", x.keep(), 2);
        x.live();
        yes("undo", x.undo());
        is("weeks", x.soFar(5), 2);
    }

    private void changeAll() {
        x.check(0);
        x.cats(0, 5);
        x.cats(4, 5);
        x.chains(0);
        x.allSouls(-1);
        x.mend(0);
        x.ghost(5, 1, 1, 1, 1);
        x.live();
        x.ghost(0, 1, 2, 3, 4);
        x.sleeper(0, 5);
        sleeperIn(8, 5, 8);
        x.live();
        Texts.rota(x, "5@5-5");
        Texts.law(x, "k(1=2)");
        x.seed(5);
        x.feed(0, 0, 0, 0, 0);
    }

    private void asKept() {
        int[] whats = {3, 4, 5, 6, 7, 10, 14, 30, 40, 50, 35, 100, 160, 108};
        int[] wants = {99, 2, 3, 1, 1, 1, 0, 4, 0, 7, -1, 0, 0, -1};
        for (int i = 0; i < whats.length; i++) {
            is("kept count " + whats[i], x.count(whats[i]), wants[i]);
        }
        int[] so = {0, 1, 2, 3, 4, 5, 10, 20, 30, 25, 18};
        int[] far = {3, 2, 1, 0, 0, 1, 3, 1, 2, -1, -1};
        for (int i = 0; i < so.length; i++) {
            is("kept soFar " + so[i], x.soFar(so[i]), far[i]);
        }
    }

    private void check() {
        fresh("k(1=1);f10*p+1(1=1)");
        is("none", x.check(0), -1);
        is("not so many", x.check(1), -2);
        x.ghost(0, 0, 0, 0, 0);
        sleeperIn(0, 0, 0);
        sleeperIn(2, 0, 0);
        rota("0@0-0", 1);
        x.live();
        x.feed(1, 0, 21, 0, 0);
        for (int n : new int[] {-1, 6, 10, 11, MIN, MAX}) {
            is("check " + n, x.check(n), -2);
            is("the tape stays", x.count(2), 20);
        }
        is("right", x.check(5), -1);
        is("empty then", x.count(2), 0);
        x.feed(1, 0, 21, 0, 7);
        is("the fifth", x.check(5), 4);
        is("empty then", x.count(2), 0);
        x.feed(1, 0, 21, 0, 7);
        is("not looked at", x.check(4), -1);
        x.feed(2, 0, 22, 0, 0);
        is("the first", x.check(3), 0);
        x.feed(1, 1, 22, 0, 0);
        is("not told is 0", x.check(3), 1);
        x.feed(1, 0, 21, 0, 0);
        x.feed(0, 0, 0, 0, 0);
        is("ten", x.check(10), -1);
        x.feed(1, 0, 21, 0, 0);
        x.feed(0, 0, 0, 0, 0);
        is("eleven", x.check(11), -2);
        is("still there", x.check(0), -1);
        is("empty then", x.count(2), 0);
        x.feed(1 << 24, 0, 0, 0, 0);
        is("four bytes", x.check(1), 0);
        for (int bit = 0; bit < 32; bit++) {
            x.feed(1, 0, 21 ^ 1 << bit, 0, 0);
            is("bit " + bit, x.check(5), 2);
        }
        law("k(1=1);f99(1=1)", 2);
        rota("0@0-0;0@1-0;0@2-0;0@3-0;0@4-0;0@5-0;0@6-0", 7);
        for (int week = 0; week < 120; week++) {
            x.live();
        }
        // 1 and 120 weeks of 7 times 99
        is("a great number", x.soFar(10), 83161);
        x.feed(83161, 0, 83181, 0, 0);
        is("a great number", x.check(5), -1);
    }

    private void count() {
        fresh();
        x.ghost(0, 1, 2, 3, 4);
        x.sleeper(0, 0);
        x.cats(0, 1);
        int[][] zero = {{6, 1}, {7, 1}, {30, 2}, {40, 1}, {50, 4}, {60, -1}, {20, 0}, {29, -1}, {90, -1}, {100, 255}, {160, 255}, {170, -1}, {180, -1}};
        for (int[] z : zero) {
            is("count " + z[0], x.count(z[0]), z[1]);
        }
        fresh("k(1=1);f1(1=1)");
        x.ghost(2, 3, 4, 5, 678);
        x.ghost(9, 1, 2, 3, 4);
        x.sleeper(5, 6);
        x.sleeps(5, 1, 2, 7);
        x.cats(3, 8);
        rota("2@0-0;2@1-1;2@2-2", 3);
        x.feed(0, 0, 0, 0, 0);
        x.chains(6);
        x.allSouls(0);
        x.seed(321);
        int[] want = {3, 2, 20, 321, 6, 0, 516, 32};
        for (int what = 0; what < want.length; what++) {
            is("count " + what, x.count(what), want[what]);
        }
        int[][] more = {{13, 8}, {21, 0}, {32, 4}, {42, 3}, {52, 678}, {39, 2}, {49, 1}, {59, 4}, {105, 255}, {115, 7}, {125, 255}, {165, 255}};
        for (int[] m : more) {
            is("count " + m[0], x.count(m[0]), m[1]);
        }
        for (int what : new int[] {-1, 8, 9, 22, 29, 30, 31, 33, 40, 50, 60, 62, 69, 70, 99, 100, 104, 106, 116, 169, 170, 175, 1005, MIN, MAX}) {
            is("count " + what, x.count(what), -1);
        }
    }
}
