/** The bounds of the two texts, THE ROTA and THE LAW: what is the last that can stand, and the first that can't. */
public final class TextEdgeTest extends Asked {
    private static final String DIGITS = "0123456789";
    private static final String FACTOR = DIGITS + "rntgmcyhpvol[";
    private static final String PIECE = FACTOR + "!(";
    private static final String REACH = "+-*/%";
    private static final String COMPARE = REACH + "<>=";
    private static final String CLOSE = "&|)";

    private TextEdgeTest() {
        super("TextEdgeTest");
    }

    public static void main(String[] args) {
        TextEdgeTest t = new TextEdgeTest();
        t.noTextAtFirst();
        t.rotaOfAtMost160Bytes();
        t.rotaOfNoMoreThanIsFed();
        t.rotaByItsFirstBytesAlone();
        t.rotaOf16Walks();
        t.seventeenthWalkAtItsGhost();
        t.everySignOfARota();
        t.everyEndOfARota();
        t.nightsOfARota();
        t.roomsOfARota();
        t.roomsAskedWhenTheirDigitsEnd();
        t.firstRotaFaultFromTheLeft();
        t.faultyRotaLeavesTheOneBefore();
        t.lawOfAtMost200Bytes();
        t.lawOfNoMoreThanIsFed();
        t.lawByItsFirstBytesAlone();
        t.lawOf14Clauses();
        t.fifteenthClauseAtItsLetter();
        t.everySignOfALaw();
        t.everyEndOfALaw();
        t.everyLetter();
        t.clausesWithAndWithoutE();
        t.numbersOfFiveDigits();
        t.sixthDigitAtIt();
        t.sixOpenInACondition();
        t.sixOpenAheadOfACondition();
        t.openOnesThatAreClosed();
        t.denialIsOpenTillItsPieceEnds();
        t.firstLawFaultFromTheLeft();
        t.faultyLawLeavesTheOneBefore();
        t.due.end();
    }

    private void fill(int feeds) {
        for (int i = 0; i < feeds; i++) {
            x.feed(0, 0, 0, 0, 0);
        }
    }

    // ---- THE ROTA

    private void noTextAtFirst() {
        fresh();
        is("no walks", x.count(0), 0);
        is("no walk 0", x.walk(0, 0), -1);
        is("no clauses", x.count(1), 0);
        plainGhost(0, 0);
        sleeperIn(0, 0, 0);
        is("no k", x.fright(0, 0, 0, 0, 0), -2);
        is("no week", x.week(0), 0);
        is("no q", x.july(1, -1), 0);
    }

    private void rotaOfAtMost160Bytes() {
        fresh();
        fill(11);
        is("rota 161", x.rota(161), -1);
        is("the tape stays", x.count(2), 220);
        is("rota 220", x.rota(220), -1);
        is("rota 0", x.rota(0), -1);
        is("rota -1", x.rota(-1), -1);
        is("the tape stays", x.count(2), 220);
        is("rota 160", x.rota(160), -1000);
        is("empty then", x.count(2), 0);
        fill(8);
        is("rota 161 of 160", x.rota(161), -1);
        is("rota 160 of 160", x.rota(160), -1000);
        is("empty then", x.count(2), 0);
        Texts.feed(x, "7@6-11");
        is("rota 1", x.rota(1), -1001);
        is("empty then", x.count(2), 0);
    }

    private void rotaOfNoMoreThanIsFed() {
        fresh();
        is("rota 1 of 0", x.rota(1), -1);
        for (int feeds = 1; feeds <= 7; feeds++) {
            fill(feeds);
            is("one more than is there", x.rota(20 * feeds + 1), -1);
            is("the tape stays", x.count(2), 20 * feeds);
            is("all that is there", x.rota(20 * feeds), -1000);
            is("empty then", x.count(2), 0);
        }
    }

    private void rotaByItsFirstBytesAlone() {
        fresh();
        Texts.feed(x, "1@2-3;x");
        is("the rest is not read", x.rota(5), 1);
        is("the rest is gone", x.count(2), 0);
        is("rota 1", x.rota(1), -1);
        Texts.feed(x, "1@2-3;x");
        is("the ; is read", x.rota(6), -1006);
        Texts.feed(x, "1@2-11");
        is("the second digit is not", x.rota(5), 1);
        is("room 1", x.walk(0, 2), 1);
        Texts.feed(x, "1@2-3+");
        is("the + is not", x.rota(5), 1);
        is("no chain", x.walk(0, 3), 0);
    }

    private void rotaOf16Walks() {
        for (int walks = 1; walks <= 16; walks++) {
            fresh();
            rota(times(walks - 1, "1@2-3;") + "9@6-11+", walks);
            is("count", x.count(0), walks);
            is("the last one", x.walk(walks - 1, 0), 9);
            is("its night", x.walk(walks - 1, 1), 6);
            is("its room", x.walk(walks - 1, 2), 11);
            is("its chain", x.walk(walks - 1, 3), 1);
            is("none behind it", x.walk(walks, 0), -1);
        }
    }

    private void seventeenthWalkAtItsGhost() {
        fresh();
        rota(times(16, "1@2-3;") + "0@0-0", -4096);
        rota(times(16, "1@2-3;") + "9", -4096);
        rota(times(16, "1@2-11+;") + "5", -4128);
        rota(times(16, "1@2-3;") + "5x", -4096);
        rota(times(16, "1@2-3;") + "/", -1096);
        rota(times(16, "1@2-3;") + ":", -1096);
        rota(times(16, "1@2-3;") + "@", -1096);
        rota(times(16, "1@2-3;"), -1096);
        rota(times(17, "1@2-3;"), -4096);
        is("none was taken", x.count(0), 0);
        rota(times(15, "1@2-3;") + "9@6-09", 16);
    }

    /** At each place each of the 256 bytes: what can stand there goes by, all else is fault 1 at it. */
    private void signs(String text, String[] able, boolean law) {
        is("places", able.length, text.length());
        for (int place = 0; place < text.length(); place++) {
            for (int sign = 0; sign < 256; sign++) {
                if (sign % 64 == 0) {
                    fresh();
                }
                String other = text.substring(0, place) + (char) sign + text.substring(place + 1);
                int answer = law ? Texts.law(x, other) : Texts.rota(x, other);
                boolean passes = able[place].indexOf(sign) >= 0;
                is("byte " + sign + " at " + place + " of " + text, answer == -1000 - place ? 0 : 1, passes ? 1 : 0);
            }
        }
    }

    private void everySignOfARota() {
        String night = "0123456";
        String[] able = {DIGITS, "@", night, "-", DIGITS, DIGITS + "+;", DIGITS, "@", night, "-", DIGITS, DIGITS + "+;", "+;", ";",
            DIGITS, "@", night, "-", DIGITS};
        signs("3@4-1;6@0-11+;7@6-2", able, false);
    }

    private void everyEndOfARota() {
        String text = "3@4-1;6@0-11+;7@6-2";
        for (int n = 1; n <= text.length(); n++) {
            fresh();
            Texts.feed(x, text);
            int walks = n == 5 ? 1 : n == 11 || n == 12 || n == 13 ? 2 : n == 19 ? 3 : 0;
            is("the first " + n + " of " + text, x.rota(n), walks > 0 ? walks : -1000 - n);
            is("walks", x.count(0), walks);
        }
    }

    private void nightsOfARota() {
        fresh();
        rota("0@0-0", 1);
        is("night 0", x.walk(0, 1), 0);
        rota("0@6-0", 1);
        is("night 6", x.walk(0, 1), 6);
        rota("0@7-0", -1002);
        rota("0@8-0", -1002);
        rota("0@06-0", -1003);
        rota("0@/-0", -1002);
    }

    private void roomsOfARota() {
        for (int room = 0; room < 100; room++) {
            fresh();
            String two = "" + room / 10 + room % 10;
            rota("0@0-" + two, room <= 11 ? 1 : -3004);
            is("room " + two, x.walk(0, 2), room <= 11 ? room : -1);
            rota("0@0-0;0@0-" + two + "+", room <= 11 ? 2 : -3010);
            if (room < 10) {
                rota("0@0-" + room, 1);
                is("room " + room, x.walk(0, 2), room);
            }
        }
    }

    private void roomsAskedWhenTheirDigitsEnd() {
        fresh();
        String[] behind = {"", "+", ";", ";1@1-1", "x", "0", "9"};
        int[] at11 = {1, 1, -1007, 2, -1006, -1006, -1006};
        for (int i = 0; i < behind.length; i++) {
            rota("0@0-11" + behind[i], at11[i]);
            rota("0@0-12" + behind[i], -3004);
        }
        rota("0@0-001", -1006);
        rota("0@0-2x", -1005);
        rota("0@0-11;0@0-12", -3011);
    }

    private void firstRotaFaultFromTheLeft() {
        fresh();
        rota("0@7-12", -1002);
        rota("0@0-12;0@7", -3004);
        rota(times(15, "1@2-3;") + "1@2-12;1", -3094);
        rota(times(15, "1@2-3;") + "1@2-1x;1", -1095);
        rota(times(16, "1@2-3;") + "1@2-12", -4096);
    }

    private void faultyRotaLeavesTheOneBefore() {
        fresh();
        plainGhost(1, 0);
        String before = "1@2-3+;1@2-4;1@3-5";
        String[] bad = {"4@4-4x", "4@4-12", times(16, "4@4-4;") + "4"};
        int[] faults = {-1005, -3004, -4096};
        for (int i = 0; i < bad.length; i++) {
            rota(before, 3);
            rota(bad[i], faults[i]);
            is("walks", x.count(0), 3);
            int[][] want = {{1, 2, 3, 1, 1}, {1, 2, 4, 0, 0}, {1, 3, 5, 0, 1}};
            for (int walk = 0; walk < 3; walk++) {
                for (int what = 0; what < 5; what++) {
                    is("walk " + walk + " " + what, x.walk(walk, what), want[walk][what]);
                }
            }
            is("walk 3", x.walk(3, 0), -1);
        }
        rota("5@5-5", 1);
        is("in place of it", x.count(0), 1);
        is("in place of it", x.walk(1, 0), -1);
    }

    // ---- THE LAW

    private void lawOfAtMost200Bytes() {
        fresh();
        fill(11);
        is("law 201", x.law(201), -1);
        is("the tape stays", x.count(2), 220);
        is("law 220", x.law(220), -1);
        is("law 0", x.law(0), -1);
        is("law -1", x.law(-1), -1);
        is("the tape stays", x.count(2), 220);
        is("law 200", x.law(200), -1000);
        is("empty then", x.count(2), 0);
        String longest = "k(1" + times(95, "+1") + "=00096)";
        is("200 bytes", longest.length(), 200);
        law(longest, 1);
        plainGhost(0, 0);
        sleeperIn(0, 0, 0);
        is("and it holds", x.fright(0, 0, 0, 0, 0), 0);
        law("k(1" + times(95, "+1") + "=00096) ", -1);
        is("the tape stays", x.count(2), 220);
        is("its first 200 are as before", x.law(200), 1);
        law("k(1" + times(95, "+1") + "=000096)", -1);
        is("its 200th is a sixth digit", x.law(200), -2199);
        law("k(1" + times(96, "+1") + "=0097)", -1);
        is("its first 200 end too soon", x.law(200), -1200);
    }

    private void lawOfNoMoreThanIsFed() {
        fresh();
        is("law 1 of 0", x.law(1), -1);
        for (int feeds = 1; feeds <= 9; feeds++) {
            fill(feeds);
            is("one more than is there", x.law(20 * feeds + 1), -1);
            is("the tape stays", x.count(2), 20 * feeds);
            is("all that is there", x.law(20 * feeds), -1000);
            is("empty then", x.count(2), 0);
        }
        fill(10);
        is("200 of 200", x.law(200), -1000);
        fill(1);
        is("1 of 20", x.law(1), -1000);
    }

    private void lawByItsFirstBytesAlone() {
        fresh();
        Texts.feed(x, "k(1=1);x");
        is("the rest is not read", x.law(6), 1);
        is("the rest is gone", x.count(2), 0);
        Texts.feed(x, "k(1=1);x");
        is("the ; is read", x.law(7), -1007);
        Texts.feed(x, "k(1=123456)");
        is("the ) is not", x.law(9), -1009);
    }

    private void lawOf14Clauses() {
        for (int clauses = 1; clauses <= 14; clauses++) {
            fresh();
            law(times(clauses - 1, "k(1=2);") + "q7(r=0)", clauses);
            is("count", x.count(1), clauses);
            is("the last one", x.july(1, -1), 7);
        }
    }

    private void fifteenthClauseAtItsLetter() {
        fresh();
        for (char letter : "kfwzq".toCharArray()) {
            law(times(14, "k(1=1);") + letter, -4098);
            law(times(14, "k(1=1);") + letter + "1(1=1)", -4098);
            law(times(14, "f1(1=1);") + letter + "x", -4112);
        }
        for (char sign : "a(1K;".toCharArray()) {
            law(times(14, "k(1=1);") + sign, -1098);
        }
        law(times(14, "k(1=1);"), -1098);
        is("none was taken", x.count(1), 0);
        law(times(13, "k(1=1);") + "k(1=1)", 14);
    }

    private void everySignOfALaw() {
        String[] able = {"kfwzq", FACTOR, DIGITS + REACH + "(", FACTOR, FACTOR, REACH + "]", REACH + "(",
            PIECE, DIGITS + COMPARE, FACTOR, DIGITS + REACH + CLOSE, PIECE, PIECE, DIGITS + COMPARE, FACTOR, DIGITS + REACH + CLOSE,
            PIECE, PIECE, DIGITS + COMPARE, FACTOR, DIGITS + REACH + CLOSE, CLOSE, ";", "kfwzq", "(", PIECE, COMPARE, FACTOR, DIGITS + REACH + CLOSE};
        signs("f1+[r](1<2&!3=4|(5>6));k(r=1)", able, true);
    }

    private void everyEndOfALaw() {
        String text = "f1+[r](1<2&!3=4|(5>6));k(r=1)";
        for (int n = 1; n <= text.length(); n++) {
            fresh();
            Texts.feed(x, text);
            int clauses = n == 22 ? 1 : n == 29 ? 2 : 0;
            is("the first " + n + " of " + text, x.law(n), clauses > 0 ? clauses : -1000 - n);
            is("clauses", x.count(1), clauses);
        }
    }

    private void everyLetter() {
        fresh();
        for (char letter = 'a'; letter <= 'z'; letter++) {
            boolean known = "rntgmcyhpvol".indexOf(letter) >= 0;
            law("k(" + letter + "=1)", known ? 1 : -1002);
            law("q1+" + letter + "(1=1)", known ? 1 : -1003);
            law("k(" + Character.toUpperCase(letter) + "=1)", -1002);
        }
    }

    private void clausesWithAndWithoutE() {
        fresh();
        for (char letter : "fwzq".toCharArray()) {
            law(letter + "1(1=1)", 1);
            law(letter + "(1=1)", -1001);
            law(letter + "1", -1002);
            law(letter + "1=1(1=1)", -1002);
            law(letter + "!1(1=1)", -1001);
        }
        law("k(1=1)", 1);
        law("k1(1=1)", -1001);
        law("k", -1001);
        law("k()", -1002);
        law("k(1)", -1003);
    }

    private void numbersOfFiveDigits() {
        fresh();
        plainGhost(0, 0);
        sleeperIn(0, 0, 0);
        String[] same = {"0=00000", "1=00001", "9=09", "99999=99999", "99999=99998+1", "12345=12344+1", "10000=9999+1"};
        for (String c : same) {
            law("k(" + c + ")", 1);
            is(c, x.fright(0, 0, 0, 0, 0), 0);
        }
        law("f12345(1=1);k(1=1)", 2);
        is("five digits", x.fright(0, 0, 0, 0, 0), 99);
    }

    private void sixthDigitAtIt() {
        fresh();
        String[] texts = {"f12345(1=1)", "f123456(1=1)", "f[12345](1=1)", "f[123456](1=1)", "f1+99999(1=1)", "f1+999999(1=1)",
            "k(12345=1)", "k(123456=1)", "k(1=00000)", "k(1=000000)", "k(1=1&!12345=1)", "k(1=1&!123456=1)", "f123456", "f1234567890(1=1)",
            "k(00001<1)", "k(000001<1)", "q12345*12345(1=1)", "q12345*123456(1=1)"};
        int[] want = {1, -2006, 1, -2007, 1, -2008, 1, -2007, 1, -2009, 1, -2012, -2006, -2006, 1, -2007, 1, -2012};
        for (int i = 0; i < texts.length; i++) {
            law(texts[i], want[i]);
        }
        law("f12345", -1006);
        law("f12345x(1=1)", -1006);
    }

    /** The ( of the clause is the first; all mixtures of five more that can stand there, and each kind of a seventh. */
    private void sixOpenInACondition() {
        for (int mixture = 0; mixture < 32; mixture++) {
            StringBuilder open = new StringBuilder("k(");
            StringBuilder close = new StringBuilder(")");
            for (int i = 0; i < 5; i++) {
                boolean bracket = (mixture >> i & 1) == 1;
                open.append(bracket ? '(' : '!');
                close.append(bracket ? ")" : "");
            }
            fresh();
            law(open + "1=1" + close, 1);
            law(open + "(1=1)" + close, -5007);
            law(open + "!1=1" + close, -5007);
            law(open + "[1]=1" + close, -5007);
            law(open + "1=[1]" + close, -5009);
            law(open + "1+[1]=1" + close, -5009);
        }
        fresh();
        for (int brackets = 0; brackets <= 5; brackets++) {
            String open = "k(" + times(brackets, "(");
            String close = times(brackets, ")") + ")";
            law(open + times(5 - brackets, "[") + "1" + times(5 - brackets, "]") + "=1" + close, 1);
            law(open + times(6 - brackets, "[") + "1" + times(6 - brackets, "]") + "=1" + close, -5007);
        }
    }

    private void sixOpenAheadOfACondition() {
        fresh();
        for (char letter : "fwzq".toCharArray()) {
            law(letter + "[[[[[[1]]]]]](1=1)", 1);
            law(letter + "[[[[[[[1]]]]]]](1=1)", -5007);
            law(letter + "[[[[[[[", -5007);
            law(letter + "[[[[[[1]]]]]](((((([1]=1))))))", -5020);
        }
        law("k(((((([", -5007);
        law("k(((((((", -5007);
        law("k((((((!", -5007);
    }

    private void openOnesThatAreClosed() {
        fresh();
        law("k((((((1=1)))))&(((((1=1))))))", 1);
        law("k((((((1=1)))))&((((((1=1)))))))", -5021);
        law("k([[[[[1]]]]]=[[[[[1]]]]])", 1);
        law("k([[[[[1]]]]]=[[[[[[1]]]]]])", -5019);
        law("f[[[[[[1]]]]]]+[[[[[[1]]]]]](((((([1]=1))))))", -5034);
        law("f[[[[[[1]]]]]]+[[[[[[1]]]]]]((((((1=1))))))", 1);
        law("k((((((1=1))))));k((((((1=1))))))", 2);
        law("k((((((1=1))))));k(((((((1=1)))))))", -5024);
        law("k((1=1)&(1=1)&(1=1)&(1=1)&(1=1)&(1=1)&(1=1)&(1=1))", 1);
    }

    private void denialIsOpenTillItsPieceEnds() {
        fresh();
        law("k(!!!!!1=1&!!!!!1=1|!!!!!1=1)", 1);
        law("k(!!!!!1=1&!!!!!!1=1)", -5016);
        law("k(!!!!(1=1)&!!!!(1=1))", 1);
        law("k(!!!!(1=1&!1=1))", -5011);
        law("k(!!!!(1=1)&(!!!!1=1))", 1);
        law("k(!!!!1=[1])", 1);
        law("k(!!!!!1=[1])", -5009);
        law("k(!1=1&!1=1&!1=1&!1=1&!1=1&!1=1&!1=1&!1=1)", 1);
        law("k(!(!(1=1)&!(1=1)))", 1);
        law("k(!(!(!(1=1))))", -5007);
        law("k(!(!(![1]=1)))", -5007);
        law("k(!(!(!1=1)))", 1);
    }

    private void firstLawFaultFromTheLeft() {
        fresh();
        law("k(1=123456", -2009);
        law("k(1=12345", -1009);
        law("k((((((1=123456", -2014);
        law("k(((((((123456", -5007);
        law(times(13, "k(1=1);") + "k(1=1));k", -1097);
        law(times(13, "k(1=1);") + "k(123456=1);k", -2098);
        law(times(14, "k(1=1);") + "k(123456=1)", -4098);
        law("x(123456=1)", -1000);
    }

    private void faultyLawLeavesTheOneBefore() {
        fresh();
        plainGhost(0, 0);
        sleeperIn(0, 0, 0);
        String[] bad = {"f7(1=1)x", "f7(1=123456)", times(14, "f7(1=1);") + "k", "f7(((((((1=1)))))))"};
        int[] faults = {-1007, -2010, -4112, -5008};
        for (int i = 0; i < bad.length; i++) {
            law("k(1=1);f5(1=1)", 2);
            law(bad[i], faults[i]);
            is("clauses", x.count(1), 2);
            is("as before", x.fright(0, 0, 0, 0, 0), 5);
        }
        law("k(1=1)", 1);
        is("in place of it", x.fright(0, 0, 0, 0, 0), 0);
    }
}
