import java.util.Random;

/** Long runs of drawn calls (the seeds are fixed), each answer against the model's. */
public final class ModelTest {
    private static final int RUNS = 3000;
    private static final String SIGNS = "0123456789@-+;kfwzq()[]!&|<>=*/%rntgmcyhpvolax \u00e9";
    private static final String LETTERS = "rntgmcyhpvol";

    private final Random random;
    private final Due due;
    private final GhostRota x = new GhostRota();
    private final Model m = new Model();
    private final int ghosts;
    private final int sleepers;
    private final int rooms;
    private final int run;

    private ModelTest(int run, Due due) {
        this.run = run;
        this.random = new Random(run);
        this.due = due;
        this.ghosts = 1 + random.nextInt(10);
        this.sleepers = 1 + random.nextInt(ghosts > 5 ? 4 : 7);
        this.rooms = random.nextInt(4) == 0 ? 12 : 2 + random.nextInt(5);
    }

    public static void main(String[] args) {
        Due due = new Due("ModelTest");
        for (int run = 0; run < RUNS; run++) {
            new ModelTest(run, due).go();
        }
        due.end();
    }

    private void go() {
        int before = due.wrong();
        boolean wild = run % 10 == 9;
        if (!wild) {
            furnish();
        }
        for (int call = random.nextInt(150); call < 400 && due.wrong() == before; call++) {
            if (random.nextInt(100) < 20) {
                change(wild);
            } else {
                ask(wild);
            }
        }
    }

    private void same(String call, long got, long want) {
        due.same("run " + run + ": " + call, got, want);
    }

    private static long one(boolean b) {
        return b ? 1 : 0;
    }

    /** A number of 0 to n - 1, at times one outside. */
    private int some(int n, boolean wild) {
        int kind = random.nextInt(wild ? 4 : 60);
        if (kind == 0) {
            return new int[] {-1, -2, n, n + 1, Integer.MAX_VALUE, Integer.MIN_VALUE, -random.nextInt(300), random.nextInt(300)}[random.nextInt(8)];
        }
        return random.nextInt(n);
    }

    private void furnish() {
        for (int g = 0; g < ghosts; g++) {
            if (random.nextInt(8) > 0) {
                tellGhost(g);
            }
        }
        for (int p = 0; p < sleepers; p++) {
            if (random.nextInt(8) > 0) {
                tellSleeper(p);
            }
        }
        tellLaw(niceLaw());
        tellRota(niceRota());
        int n = random.nextInt(5);
        same("chains", one(x.chains(n)), m.chains(n));
    }

    private void tellGhost(int g) {
        int kind = random.nextInt(3) == 0 ? 0 : random.nextInt(5);
        int moan = random.nextInt(10);
        int cold = random.nextInt(10);
        int years = random.nextInt(3) == 0 ? random.nextInt(1000) : random.nextInt(4);
        same("ghost", one(x.ghost(g, kind, moan, cold, years)), m.ghost(g, kind, moan, cold, years));
    }

    private void tellSleeper(int p) {
        int nerves = random.nextInt(10);
        same("sleeper", one(x.sleeper(p, nerves)), m.sleeper(p, nerves));
        for (int i = random.nextInt(4); i >= 0; i--) {
            bed(p, false);
        }
    }

    private void bed(int p, boolean wild) {
        int from = some(8, wild);
        int to = random.nextInt(4) == 0 ? some(8, wild) : 7;
        int room = random.nextInt(8) == 0 ? -1 : some(rooms, wild);
        same("sleeps " + p + " " + from + " " + to + " " + room, one(x.sleeps(p, from, to, room)), m.sleeps(p, from, to, room));
    }

    private void put(String text) {
        for (int i = 0; i < text.length(); i += 20) {
            int[] f = new int[5];
            for (int k = 0; k < 20; k++) {
                f[k / 4] = f[k / 4] << 8 | (i + k < text.length() ? text.charAt(i + k) & 255 : 'a');
            }
            same("feed", x.feed(f[0], f[1], f[2], f[3], f[4]), m.feed(f));
        }
    }

    private void tellLaw(String text) {
        put(text);
        same("law " + text, x.law(text.length()), m.law(text.length()));
    }

    private void tellRota(String text) {
        put(text);
        same("rota " + text, x.rota(text.length()), m.rota(text.length()));
    }

    private String niceRota() {
        StringBuilder b = new StringBuilder();
        int crowd = random.nextInt(3) == 0 ? 2 : 7;
        for (int i = random.nextInt(15); i >= 0; i--) {
            int room = random.nextInt(rooms);
            b.append(random.nextInt(ghosts)).append('@').append(random.nextInt(crowd)).append('-');
            b.append(room < 10 && random.nextInt(9) == 0 ? "0" : "").append(room);
            b.append(random.nextInt(3) == 0 ? "+" : "").append(i == 0 ? "" : ";");
        }
        return b.toString();
    }

    private String niceLaw() {
        for (int tries = 0; tries < 50; tries++) {
            StringBuilder b = new StringBuilder(random.nextInt(3) > 0 ? "k(" + c(1) + ")" : "k(1=1)");
            for (int i = random.nextInt(8); i > 0; i--) {
                char letter = "kffwzzq".charAt(random.nextInt(7));
                b.append(';').append(letter).append(letter == 'k' ? "" : e(random.nextInt(6))).append('(').append(c(1)).append(')');
            }
            if (b.length() <= 200) {
                return b.toString();
            }
        }
        return "k(1=1);fm(2=2);wc(3=3);z3(4=4);qr*l(5=5)";
    }

    private String c(int open) {
        StringBuilder b = new StringBuilder(piece(open));
        while (random.nextInt(4) == 0) {
            b.append(random.nextBoolean() ? '|' : '&').append(piece(open));
        }
        return b.toString();
    }

    private String piece(int open) {
        int kind = random.nextInt(8);
        if (open < 6 && kind == 0) {
            return "!" + piece(open + 1);
        }
        if (open < 6 && kind == 1) {
            return "(" + c(open + 1) + ")";
        }
        if (kind == 2) {
            return "1=1";
        }
        return e(open) + "<>=".charAt(random.nextInt(3)) + e(open);
    }

    private String e(int open) {
        StringBuilder b = new StringBuilder(factor(open));
        while (random.nextInt(3) == 0) {
            b.append("+-*/%".charAt(random.nextInt(5))).append(factor(open));
        }
        return b.toString();
    }

    private String factor(int open) {
        if (open < 6 && random.nextInt(8) == 0) {
            return "[" + e(open + 1) + "]";
        }
        if (random.nextInt(3) == 0) {
            return "" + random.nextInt(new int[] {3, 10, 1000, 100000}[random.nextInt(4)]);
        }
        return "" + LETTERS.charAt(random.nextInt(12));
    }

    private String spoilt(String text) {
        StringBuilder b = new StringBuilder(text);
        for (int i = random.nextInt(3); i >= 0 && b.length() > 0; i--) {
            int at = random.nextInt(b.length());
            char sign = SIGNS.charAt(random.nextInt(SIGNS.length()));
            switch (random.nextInt(4)) {
                case 0 -> b.deleteCharAt(at);
                case 1 -> b.setCharAt(at, sign);
                case 2 -> b.insert(at, sign);
                default -> b.setLength(at);
            }
        }
        b.append(b.length() == 0 ? "x" : "");
        return b.length() > 160 ? b.substring(0, 160) : b.toString();
    }

    private String deep() {
        StringBuilder b = new StringBuilder(random.nextBoolean() ? "k(" : "f[[[[[[1]]]]](");
        for (int i = 3 + random.nextInt(5); i > 0; i--) {
            b.append("([!".charAt(random.nextInt(3)));
        }
        return b.append("r=1)))))").toString();
    }

    private String crowded() {
        StringBuilder b = new StringBuilder();
        boolean law = random.nextBoolean();
        for (int i = law ? 14 : 16; i > 0; i--) {
            b.append(law ? "k(r=" + random.nextInt(10) + ");" : "1@" + random.nextInt(7) + "-1;");
        }
        return b.append("kqx19".charAt(random.nextInt(5))).append("@0-0").toString();
    }

    private void readText() {
        switch (random.nextInt(10)) {
            case 0 -> tellLaw(spoilt(niceLaw()));
            case 1 -> tellRota(spoilt(niceRota()));
            case 2 -> tellLaw(deep());
            case 3 -> {
                String text = crowded();
                if (text.startsWith("k")) {
                    tellLaw(text);
                } else {
                    tellRota(text);
                }
            }
            case 4, 5, 6 -> tellLaw(niceLaw());
            default -> tellRota(niceRota());
        }
    }

    private void change(boolean wild) {
        int a = some(10, wild);
        int b = some(10, wild);
        switch (random.nextInt(17)) {
            case 0 -> same("cats", one(x.cats(a, b)), m.cats(a, b));
            case 1 -> same("allSouls", one(x.allSouls(a - 1)), m.allSouls(a - 1));
            case 2 -> same("chains", one(x.chains(a)), m.chains(a));
            case 3 -> same("sleeper", one(x.sleeper(a % 12, b)), m.sleeper(a % 12, b));
            case 4, 5 -> bed(a, wild);
            case 6 -> {
                int[] v = {some(ghosts, wild), some(5, wild), some(10, wild), some(10, wild), some(1000, wild)};
                same("ghost", one(x.ghost(v[0], v[1], v[2], v[3], v[4])), m.ghost(v[0], v[1], v[2], v[3], v[4]));
            }
            case 7, 8 -> readText();
            case 9, 10, 11 -> same("live", x.live(), m.live());
            case 12 -> same("mend", x.mend(a), m.mend(a));
            case 13 -> {
                int seed = some(65536, wild);
                same("seed", one(x.seed(seed)), m.seed(seed));
            }
            case 14 -> same("keep", x.keep(), m.keep());
            case 15 -> same("undo", one(x.undo()), m.undo());
            default -> feedAndCheck(wild);
        }
    }

    private void feedAndCheck(boolean wild) {
        int n = some(11, wild);
        if (random.nextInt(4) == 0) {
            same("check " + n, x.check(n), m.check(n));
            return;
        }
        StringBuilder b = new StringBuilder();
        for (int p = 0; p < 10; p++) {
            int value = Math.max(0, m.soFar(10 + p)) + (random.nextInt(25) == 0 ? 1 : 0);
            b.append((char) (value >> 24 & 255)).append((char) (value >> 16 & 255)).append((char) (value >> 8 & 255)).append((char) (value & 255));
        }
        put(b.toString());
        same("check " + n, x.check(n), m.check(n));
    }

    private void ask(boolean wild) {
        int g = some(ghosts, wild);
        int p = some(sleepers, wild);
        int n = some(7, wild);
        switch (random.nextInt(18)) {
            case 0 -> {
                int i = some(16, wild);
                int what = some(5, wild);
                same("walk " + i + " " + what, x.walk(i, what), m.walk(i, what));
            }
            case 1, 2 -> {
                int room = some(rooms, wild);
                int what = some(2, wild);
                same("fright", x.fright(g, p, n, room, what), m.fright(g, p, n, room, what));
            }
            case 3, 4, 5 -> {
                int what = some(50, wild);
                same("week " + what, x.week(what), m.week(what));
            }
            case 6, 7 -> {
                int what = some(50, wild);
                same("soFar " + what, x.soFar(what), m.soFar(what));
            }
            case 8 -> once(wild);
            case 9 -> {
                int what = some(3, wild);
                same("bestWalk", x.bestWalk(g, what), m.bestWalk(g, what));
            }
            case 10 -> candle(n, wild);
            case 11 -> same("draughts", x.draughts(), m.draughts());
            case 12 -> {
                int what = some(3, wild);
                same("mended " + g + " " + what, x.mended(g, what), m.mended(g, what));
            }
            case 13 -> {
                int what = some(2, wild);
                same("shared " + n + " " + what, x.shared(n, what), m.shared(n, what));
            }
            case 14 -> {
                int lodgers = random.nextInt(12) == 0 ? some(9, wild) : 1 + some(4, wild);
                int what = some(9, wild) - 1;
                same("july " + lodgers + " " + what, x.july(lodgers, what), m.july(lodgers, what));
            }
            case 15 -> offOrBids(g, wild);
            case 16 -> {
                int what = some(2, wild);
                same("odds " + n + " " + p + " " + what, x.odds(n, p, what), m.odds(n, p, what));
            }
            default -> {
                int what = some(180, wild);
                same("count " + what, x.count(what), m.count(what));
            }
        }
    }

    private int set(boolean wild) {
        if (random.nextInt(8) == 0) {
            return some(1024, wild);
        }
        int told = m.count(7);
        return random.nextBoolean() ? told : told & random.nextInt(1024);
    }

    private void once(boolean wild) {
        int set = set(wild);
        int what = random.nextInt(3) == 0 ? -1 : some(ghosts, wild);
        same("once " + set + " " + what, x.once(set, what), m.once(set, what));
    }

    private void candle(int n, boolean wild) {
        int set = random.nextBoolean() ? set(wild) : 1 << random.nextInt(sleepers);
        if (random.nextBoolean() && n >= 0 && n < 7 && m.toldG(0)) {
            set = m.bits(0, n, random.nextInt(rooms));
        }
        int what = some(4, wild);
        same("candle " + n + " " + set + " " + what, x.candle(n, set, what), m.candle(n, set, what));
    }

    private void offOrBids(int g, boolean wild) {
        if (random.nextBoolean()) {
            int n = 1 + some(ghosts, wild);
            int d = some(370, wild);
            same("off " + n + " " + d + " " + g, x.off(n, d, g), m.off(n, d, g));
            return;
        }
        int a = some(21, wild);
        int b = some(21, wild);
        int what = some(3, wild);
        same("bids " + a + " " + b + " " + what, x.bids(a, b, what), m.bids(a, b, what));
    }
}
