/** The bounds of what THE LAW reckons: of f, w, z, q, of 32 bits, of what is divided by 0, of each letter. */
public final class ReckonEdgeTest extends Asked {
    private ReckonEdgeTest() {
        super("ReckonEdgeTest");
    }

    public static void main(String[] args) {
        ReckonEdgeTest t = new ReckonEdgeTest();
        t.boundsOfFright();
        t.boundsOfWages();
        t.boundsOfTenths();
        t.boundsOfWorths();
        t.firstClauseThatHolds();
        t.anyClauseOfK();
        t.amountDividedByZero();
        t.conditionDividedByZero();
        t.asMuchAsMatters();
        t.sumsOf32Bits();
        t.productsOf32Bits();
        t.quotientsOf32Bits();
        t.fromTheLeftOn();
        t.comparisons();
        t.longestOnes();
        t.deepestOnes();
        t.lettersOfAGhostAndASleeper();
        t.lettersOfAWalk();
        t.lettersOfALodger();
        t.lettersThatAreNotTold();
        t.due.end();
    }

    private void oneOfEach() {
        fresh();
        plainGhost(0, 0);
        sleeperIn(0, 0, 0);
        rota("0@0-0", 1);
    }

    private void frightens(String e, int want) {
        law("k(1=1);f" + e + "(1=1)", 2);
        is("f" + e, x.fright(0, 0, 0, 0, 0), want);
    }

    private void pays(String e, int want) {
        law("w" + e + "(1=1)", 1);
        is("w" + e, x.week(30), want);
    }

    private void strikes(String e, int above, int below) {
        law("k(1=1);z" + e + "(1=1)", 2);
        is("z" + e + ", above", x.odds(0, 0, 0), above);
        is("z" + e + ", below", x.odds(0, 0, 1), below);
    }

    private void lets(String e, int want) {
        law("q" + e + "(1=1)", 1);
        is("q" + e, x.july(1, -1), want);
    }

    private void holds(String c, int want) {
        law("k(" + c + ")", 1);
        is(c, x.fright(0, 0, 0, 0, 0), want == 1 ? 0 : -2);
    }

    private void boundsOfFright() {
        oneOfEach();
        frightens("0-99999", 0);
        frightens("0-1", 0);
        frightens("0", 0);
        frightens("1", 1);
        frightens("98", 98);
        frightens("99", 99);
        frightens("100", 99);
        frightens("99999", 99);
        frightens("46340*46340", 99);
        frightens("46341*46341", 0);
        law("k(1=1);f100(1=1)", 2);
        is("in the week", x.week(0), 99);
        law("k(1=1);f0-1(1=1)", 2);
        is("in the week", x.week(0), 0);
        is("it is frightened all the same", x.week(2), 1);
    }

    private void boundsOfWages() {
        oneOfEach();
        pays("0-1", 0);
        pays("0", 0);
        pays("1", 1);
        pays("998", 998);
        pays("999", 999);
        pays("1000", 999);
        pays("99999", 999);
        pays("46340*46340", 999);
        pays("46341*46341", 0);
        x.allSouls(0);
        pays("0-1", 0);
        pays("499", 998);
        pays("500", 1000);
        pays("999", 1998);
        pays("1000", 1998);
    }

    private void boundsOfTenths() {
        oneOfEach();
        strikes("0-99999", 1, 1);
        strikes("0-1", 1, 1);
        strikes("0", 1, 1);
        strikes("1", 9, 10);
        strikes("9", 1, 10);
        strikes("10", 0, 1);
        strikes("11", 0, 1);
        plainGhost(1, 0);
        rota("0@0-0;1@0-1", 2);
        law("k(1=1);z11(g=1);z5(1=1)", 3);
        is("the other one's matter", x.odds(0, 0, 0), 1);
        rota("0@0-0;1@0-1", 2);
        x.ghost(1, 2, 0, 0, 0);
        is("11 is as 10, above", x.odds(0, 0, 0), 1);
        is("11 is as 10, below", x.odds(0, 0, 1), 2);
        law("k(1=1);z0-1(g=1);z5(1=1)", 3);
        is("-1 is as 0, above", x.odds(0, 0, 0), 1);
        is("-1 is as 0, below", x.odds(0, 0, 1), 1);
        rota("0@0-0", 1);
        strikes("99999", 0, 1);
        strikes("46341*46341", 1, 1);
    }

    private void boundsOfWorths() {
        oneOfEach();
        lets("0-1", 0);
        lets("0", 0);
        lets("1", 1);
        lets("998", 998);
        lets("999", 999);
        lets("1000", 999);
        lets("46340*46340", 999);
        lets("46341*46341", 0);
        law("q1000(1=1)", 1);
        is("eight at the bound", x.july(8, -1), 7992);
        law("q0-1(1=1)", 1);
        is("eight at the other bound", x.july(8, -1), 0);
    }

    private void firstClauseThatHolds() {
        oneOfEach();
        law("k(1=1);f1(1=2);f2(1=1);f3(1=1)", 4);
        is("f", x.week(0), 2);
        law("w1(1=2);w2(1=1);w3(1=1)", 3);
        is("w", x.week(1), 2);
        law("k(1=1);z1(1=2);z2(1=1);z3(1=1)", 4);
        is("z", x.odds(0, 0, 0), 4);
        law("q1(1=2);q2(1=1);q3(1=1)", 3);
        is("q", x.july(1, -1), 2);
        law("k(1=1);f9(1=2);w9(1=2);z9(1=2);q9(1=2)", 5);
        noneHolds();
        law("k(1=1)", 1);
        noneHolds();
        law("k(1=1);f0(1=1);f9(1=1)", 3);
        is("the first, though it is 0", x.week(0), 0);
        law("k(1=1);f1/0(1=1);f9(1=1)", 3);
        is("the first, though it is refused", x.week(0), 0);
        law("k(1=1);f8(1/0=1);f9(1=1)", 3);
        is("not one whose C is refused", x.week(0), 9);
    }

    private void noneHolds() {
        is("no f", x.week(0), 0);
        is("no w", x.week(1), 0);
        is("no z", x.odds(0, 0, 0), 1);
        is("no q", x.july(1, -1), 0);
        is("frightened all the same", x.week(2), 1);
    }

    private void anyClauseOfK() {
        oneOfEach();
        String[] laws = {"f1(1=1)", "k(1=2)", "k(1=1)", "k(1=2);k(1=2)", "k(1=2);k(1=1)", "k(1=1);k(1=2)", "k(1/0=1);k(1=1)", "k(1/0=1);k(1%0=1)",
            times(13, "k(1=2);") + "k(1=1)", times(13, "k(1=2);") + "k(1=2)"};
        int[] hold = {0, 0, 1, 0, 1, 1, 1, 0, 1, 0};
        for (int i = 0; i < laws.length; i++) {
            due.yes(laws[i], Texts.law(x, laws[i]) > 0);
            is(laws[i], x.week(2), hold[i]);
            is(laws[i], x.fright(0, 0, 0, 0, 0) == -2 ? 0 : 1, hold[i]);
        }
    }

    private void amountDividedByZero() {
        oneOfEach();
        String[] es = {"7/1", "7/0", "8+7/[0-1]", "7%2", "7%1+3", "7%0", "7%0+3", "7%[0-1]+3", "0/7+5", "0%7+5", "0/0+5", "5+0*[1/0]", "5+[0*[1%0]]",
            "5+1/l", "5+1%l", "5+1/[l+1]", "5+1/[1-1]", "5+1/[65536*65536]", "1/0+5", "[1/0]+5"};
        int[] want = {7, 0, 1, 1, 3, 0, 0, 3, 5, 5, 0, 0, 0, 0, 0, 6, 0, 0, 0, 0};
        for (int i = 0; i < es.length; i++) {
            frightens(es[i], want[i]);
            pays(es[i], want[i]);
            lets(es[i], want[i]);
        }
        strikes("5/1", 1, 2);
        strikes("5/0", 1, 1);
        strikes("5%0+5", 1, 1);
    }

    private void conditionDividedByZero() {
        oneOfEach();
        String[] refused = {"1/0=0", "1%0=0", "0/0=0", "1=1/0", "!1/0=1", "!1=1%0", "!!1/0=1", "(1/0=1)", "!(1/0=1)", "!(!(1/0=1))", "1/0=1|1=1", "1%0=1|1=1",
            "(1/0=1)|1=1", "((1/0=1)|1=1)|1=1", "1=1&1/0=1|1=1", "!(1=1&1/0=1)|1=1", "1=2|1/0=1|1=1", "0*[1/0]=0", "[1/0]*0=0", "1/0=1&1=1", "1/r=1|1=1"};
        for (String c : refused) {
            holds(c, 0);
        }
        String[] taken = {"1/1=1", "1%1=0", "1/[0-1]<0", "1%[0-1]=0", "!1/1=2", "1/[r+1]=1", "0/1=0", "1=2|1/1=1"};
        for (String c : taken) {
            holds(c, 1);
        }
    }

    /** What no longer matters is not asked, so that it is not refused. */
    private void asMuchAsMatters() {
        oneOfEach();
        holds("1=1|1/0=1", 1);
        holds("1=2|1/0=1", 0);
        holds("1=2&1/0=1|1=1", 1);
        holds("1=1&1/0=1|1=1", 0);
        holds("!(1=2&1/0=1)", 1);
        holds("!(1=1&1/0=1)", 0);
        holds("1=1&(1=1|1/0=1)", 1);
        holds("1=1&(1=2|1/0=1)", 0);
        holds("(1=2&1/0=1)|1=1", 1);
        holds("1=2&(1/0=1|1=1)|1=1", 1);
        holds("1=2&1=1&1/0=1|1=1", 1);
        holds("1=1|1=2|1/0=1", 1);
        holds("1=1|1/0=1&1/0=1", 1);
        holds("!1=1&1/0=1|1=1", 1);
        holds("!1=2|1/0=1", 1);
    }

    private void sumsOf32Bits() {
        oneOfEach();
        // 65536*32767 is 65536 below 2147483648
        holds("65536*32767+65535>0", 1);
        holds("65536*32767+65536<0", 1);
        holds("65536*32767+65535+1=65536*32768", 1);
        holds("0-65536*32767-65536<0", 1);
        holds("0-65536*32767-65537>0", 1);
        holds("65536*32768-1=65536*32767+65535", 1);
        holds("0-65536*32768=65536*32768", 1);
        frightens("65536*32767+65535", 99);
        frightens("65536*32767+65536", 0);
        frightens("0-65536*32767-65536", 0);
        frightens("0-65536*32767-65537", 99);
    }

    private void productsOf32Bits() {
        oneOfEach();
        holds("46340*46340>0", 1);
        holds("46341*46341<0", 1);
        holds("65536*32767>0", 1);
        holds("65536*32768<0", 1);
        holds("65536*65535=0-65536", 1);
        holds("65536*65536=0", 1);
        holds("65536*65536+7=7", 1);
        holds("65537*65537=65536*2+1", 1);
        holds("99999*99999=14098*10000*10+65409", 1);
        holds("[0-65536]*32768=65536*32768", 1);
        holds("[0-65536]*32769<0", 0);
    }

    private void quotientsOf32Bits() {
        oneOfEach();
        holds("65536*32768/[0-1]=65536*32768", 1);
        holds("65536*32768%[0-1]=0", 1);
        holds("65536*32768/1<0", 1);
        holds("[65536*32767+65535]/[0-1]<0", 1);
        holds("7/2=3", 1);
        holds("[0-7]/2=0-3", 1);
        holds("7/[0-2]=0-3", 1);
        holds("[0-7]/[0-2]=3", 1);
        holds("7%2=1", 1);
        holds("[0-7]%2=0-1", 1);
        holds("7%[0-2]=1", 1);
        holds("[0-7]%[0-2]=0-1", 1);
        holds("0/99999=0", 1);
        holds("99998/99999=0", 1);
        holds("99999/99999=1", 1);
        holds("99999%99999=0", 1);
        holds("99998%99999=99998", 1);
    }

    private void fromTheLeftOn() {
        oneOfEach();
        holds("9-4-3=2", 1);
        holds("9-4+3=8", 1);
        holds("40/4*2=20", 1);
        holds("40/4/2=5", 1);
        holds("40%9*2=8", 1);
        holds("2*9%4=2", 1);
        holds("2+3*4=14", 1);
        holds("2*3+4=10", 1);
        holds("[2+3]*4=20", 1);
        holds("20-[9-[4-3]]=12", 1);
        holds("1=2&1=1|1=1", 1);
        holds("1=1|1=1&1=2", 1);
        holds("(1=1|1=1)&1=2", 0);
        holds("!1=2&1=2", 0);
        holds("!(1=2&1=2)", 1);
    }

    private void comparisons() {
        oneOfEach();
        int[] left = {0, 1, 99998, 99999};
        for (int a : left) {
            for (int b : left) {
                holds(a + "<" + b, a < b ? 1 : 0);
                holds(a + ">" + b, a > b ? 1 : 0);
                holds(a + "=" + b, a == b ? 1 : 0);
                holds("!" + a + "<" + b, a < b ? 0 : 1);
                holds("!" + a + ">" + b, a > b ? 0 : 1);
                holds("!!" + a + "=" + b, a == b ? 1 : 0);
                holds("0-" + a + "<0-" + b, a > b ? 1 : 0);
            }
        }
        holds("65536*32768<65536*32768-1", 1);
        holds("65536*32768>65536*32768-1", 0);
    }

    /** As many parts, pieces, terms, factors and denials as a text of 200 bytes holds. */
    private void longestOnes() {
        oneOfEach();
        holds("1=1" + times(48, "&1=1"), 1);
        holds("1=1" + times(47, "&1=1") + "&1=2", 0);
        holds("1=2" + times(48, "|1=2"), 0);
        holds("1=2" + times(47, "|1=2") + "|1=1", 1);
        holds("1=2" + times(23, "&1=1|1=2") + "|1=1", 1);
        holds("1=1" + times(23, "|1=2&1=1") + "&1=2", 1);
        holds("!1=2" + times(38, "&!1=2"), 1);
        holds("!1=2" + times(37, "&!1=2") + "&!1=1", 0);
        holds("r=0" + times(95, "+0"), 1);
        holds("1" + times(95, "*1") + "=1", 1);
        holds("1" + times(94, "+1") + "=95", 1);
        holds("95" + times(94, "-1") + "=1", 1);
        holds("7" + times(94, "%8") + "=7", 1);
        frightens("1" + times(90, "+1"), 91);
        frightens("1" + times(90, "*1") + "+1", 2);
        for (int c = 1; c <= 14; c++) {
            law(times(c - 1, "f1(1=2);") + "f2(1=1)" + (c < 14 ? ";k(1=1)" : ""), c < 14 ? c + 1 : 14);
            is("clause " + c, x.week(0), c < 14 ? 2 : 0);
        }
    }

    private void deepestOnes() {
        oneOfEach();
        holds("(((((1=1)))))", 1);
        holds("!!!!!1=1", 0);
        holds("!!!!!1=2", 1);
        holds("!(!(!1=1))", 0);
        holds("!(!(!1=2))", 1);
        holds("1=2|(1=2|(1=2|(1=2|(1=2|(1=1)))))", 1);
        holds("1=1&(1=1&(1=1&(1=1&(1=1&(1=2)))))", 0);
        holds("1+1*[1+1*[1+1*[1+1*[1+1*[1+1]]]]]=7", 1);
        holds("7=1+1*[1+1*[1+1*[1+1*[1+1*[1+1]]]]]", 1);
        holds("(1=1&7=1+1*[1+1*[1+1*[1+1*[1+1]]]]+1)", 1);
        frightens("1+2*[1+2*[1+2*[1+2*[1+2*[1+2*[1]]]]]]-30", 97);
        frightens("[[[[[[7]]]]]]", 7);
        frightens("[[[[[[7]]]]]]+[[[[[[8]]]]]]", 15);
        frightens("[[[[[[1]+1]+1]+1]+1]+1]", 6);
    }

    /** Each letter at its lowest and at its highest, and that it is no more than that. */
    private void lettersOfAGhostAndASleeper() {
        fresh();
        x.ghost(0, 0, 0, 0, 0);
        x.ghost(9, 4, 9, 9, 999);
        sleeperIn(9, 9, 11);
        sleeperIn(0, 0, 0);
        x.cats(11, 9);
        law("k(g=0&p=0&r=0&n=0&t=0&m=0&c=0&y=0&h=0&v=0&o=1&l=0)", 1);
        is("all at their lowest", x.fright(0, 0, 0, 0, 0), 0);
        law("k(g=9&p=9&r=11&n=6&t=9&m=9&c=9&y=999&h=1&v=9&o=1&l=0)", 1);
        is("all at their highest", x.fright(9, 9, 6, 11, 1), 0);
        String[] letters = {"g9", "p9", "r11", "n6", "t9", "m9", "c9", "y999", "h1", "v9", "o1"};
        for (String letter : letters) {
            String name = letter.substring(0, 1);
            int value = Integer.parseInt(letter.substring(1));
            law("k(" + name + "<" + value + "|" + name + ">" + value + ")", 1);
            is(letter, x.fright(9, 9, 6, 11, 1), -2);
        }
        for (int p = 1; p < 9; p++) {
            sleeperIn(p, 0, 0);
        }
        law("fo(1=1);k(1=1)", 2);
        is("nine in a room", x.fright(0, 0, 0, 0, 0), 9);
        x.sleeps(9, 3, 4, 0);
        is("alone in that night", x.fright(0, 9, 2, 11, 0), 1);
        is("ten in the next one", x.fright(0, 9, 3, 0, 0), 10);
        is("ten in the next one", x.fright(0, 0, 3, 0, 0), 10);
        is("nine in the one behind", x.fright(0, 0, 4, 0, 0), 9);
    }

    private void lettersOfAWalk() {
        fresh();
        x.ghost(9, 0, 9, 8, 7);
        x.cats(11, 6);
        x.chains(1);
        rota("9@6-11+", 1);
        law("w1(g=9&m=9&c=8&y=7&r=11&n=6&t=6&h=1&p=0&v=0&o=0&l=0)", 1);
        is("w", x.week(1), 1);
        law("z10(g=9&m=9&c=8&y=7&r=11&n=6&t=6&h=1&p=0&v=0&o=0&l=0)", 1);
        is("z", x.week(3), 1);
        x.chains(0);
        is("no chain", x.week(3), 0);
        law("w1(h=0)", 1);
        is("no chain", x.week(1), 1);
        rota("9@0-0", 1);
        law("w1(r=0&n=0&t=0&h=0)", 1);
        is("at their lowest", x.week(1), 1);
    }

    private void lettersOfALodger() {
        fresh();
        x.ghost(0, 0, 9, 9, 999);
        x.ghost(1, 0, 9, 9, 999);
        rota("0@6-11;1@5-11", 2);
        x.cats(11, 9);
        law("q1(l=7&r=11&t=9&c=18&n=0&g=0&m=0&y=0&h=0&p=0&v=0&o=0)", 1);
        is("at their highest", x.july(8, -1), 1);
        is("at their highest", x.july(8, 7), 11);
        is("only lodger 7", x.july(7, -1), 0);
        law("q1(l=0&r=0&t=0&c=0)", 1);
        is("at their lowest", x.july(1, -1), 1);
        is("at their lowest", x.july(1, 0), 0);
        law("q1(l>7|r>11|t>9|c>18)", 1);
        is("no more", x.july(8, -1), 0);
    }

    private void lettersThatAreNotTold() {
        oneOfEach();
        holds("l=0", 1);
        holds("l>0|l<0", 0);
        x.ghost(0, 0, 5, 5, 5);
        pays("1+p+v+o+l", 1);
        strikes("1+p+v+o+l", 9, 10);
        lets("1+g+m+y+h+p+v+o+n", 1);
    }
}
