import java.util.ArrayList;
import java.util.Arrays;
import java.util.List;

/** The document again, in the dullest way: texts interpreted as they stand, all possibilities tried. */
final class Model {

    @SuppressWarnings("serial")
    private static final class Fault extends RuntimeException {
        final int code;

        Fault(int number, int place) {
            super(null, null, false, false);
            code = -1000 * number - place;
        }
    }

    @SuppressWarnings("serial")
    private static final class Refused extends RuntimeException {
        Refused() {
            super(null, null, false, false);
        }
    }

    static final class Walk {
        int g, n, r;
        boolean chain;
    }

    static final class Clause {
        char letter;
        String e;
        String c;
    }

    static final class State {
        int[] cats = new int[12];
        Integer[] nerves = new Integer[10];
        int[][] bed = new int[10][7];
        int[][] ghost = new int[10][];
        int chains, souls = -1, weeks, x = 1;
        long[] total = new long[5];
        long[] fright = new long[10];
        long[] sighs = new long[10];
        long[] wages = new long[10];

        State copy() {
            State s = new State();
            s.cats = cats.clone();
            s.nerves = nerves.clone();
            for (int p = 0; p < 10; p++) {
                s.bed[p] = bed[p].clone();
                s.ghost[p] = ghost[p] == null ? null : ghost[p].clone();
            }
            s.chains = chains;
            s.souls = souls;
            s.weeks = weeks;
            s.x = x;
            s.total = total.clone();
            s.fright = fright.clone();
            s.sighs = sighs.clone();
            s.wages = wages.clone();
            return s;
        }
    }

    State s = new State();
    State kept;
    List<Walk> rota = new ArrayList<>();
    List<Clause> law = new ArrayList<>();
    List<Integer> tape = new ArrayList<>();

    // ---- told things

    static boolean in(int v, int low, int high) {
        return v >= low && v <= high;
    }

    boolean toldG(int g) {
        return in(g, 0, 9) && s.ghost[g] != null;
    }

    boolean toldP(int p) {
        return in(p, 0, 9) && s.nerves[p] != null;
    }

    int cats(int room, int n) {
        if (!in(room, 0, 11) || !in(n, 0, 9)) return 0;
        s.cats[room] = n;
        return 1;
    }

    int allSouls(int n) {
        if (!in(n, -1, 6)) return 0;
        s.souls = n;
        return 1;
    }

    int chains(int n) {
        if (!in(n, 0, 9)) return 0;
        s.chains = n;
        return 1;
    }

    int sleeper(int p, int v) {
        if (!in(p, 0, 9) || !in(v, 0, 9)) return 0;
        s.nerves[p] = v;
        s.fright[p] = 0;
        Arrays.fill(s.bed[p], 255);
        return 1;
    }

    int sleeps(int p, int from, int to, int room) {
        if (!toldP(p) || !in(from, 0, 6) || !in(to, 1, 7) || to <= from || !in(room, -1, 11)) return 0;
        for (int n = from; n < to; n++) s.bed[p][n] = room < 0 ? 255 : room;
        return 1;
    }

    int ghost(int g, int k, int m, int c, int y) {
        if (!in(g, 0, 9) || !in(k, 0, 4) || !in(m, 0, 9) || !in(c, 0, 9) || !in(y, 0, 999)) return 0;
        s.ghost[g] = new int[] {k, m, c, y};
        s.sighs[g] = 0;
        s.wages[g] = 0;
        return 1;
    }

    int feed(int... f) {
        if (tape.size() > 200) return -1;
        for (int i : f) for (int k = 3; k >= 0; k--) tape.add(i >>> 8 * k & 255);
        return tape.size();
    }

    // ---- texts

    private String text;
    private int at;

    private String take(int n) {
        StringBuilder b = new StringBuilder();
        for (int i = 0; i < n; i++) b.append((char) (int) tape.get(i));
        tape.clear();
        return b.toString();
    }

    private char look() {
        return at < text.length() ? text.charAt(at) : '\uffff';
    }

    private void must(boolean can) {
        if (!can) throw new Fault(1, at);
    }

    private char eat(String any) {
        must(any.indexOf(look()) >= 0);
        return text.charAt(at++);
    }

    int rota(int n) {
        if (!in(n, 1, 160) || tape.size() < n) return -1;
        text = take(n);
        at = 0;
        List<Walk> list = new ArrayList<>();
        try {
            do {
                must(Character.isDigit(look()) && look() < 128);
                if (list.size() == 16) throw new Fault(4, at);
                Walk w = new Walk();
                w.g = eat("0123456789") - '0';
                eat("@");
                w.n = eat("0123456") - '0';
                eat("-");
                int from = at;
                eat("0123456789");
                if ("0123456789".indexOf(look()) >= 0) at++;
                w.r = Integer.parseInt(text.substring(from, at));
                if (w.r > 11) throw new Fault(3, from);
                if (look() == '+') {
                    at++;
                    w.chain = true;
                }
                list.add(w);
                if (at == text.length()) break;
                eat(";");
            } while (true);
        } catch (Fault f) {
            return f.code;
        }
        rota = list;
        return list.size();
    }

    int law(int n) {
        if (!in(n, 1, 200) || tape.size() < n) return -1;
        text = take(n);
        at = 0;
        List<Clause> list = new ArrayList<>();
        try {
            do {
                must("kfwzq".indexOf(look()) >= 0);
                if (list.size() == 14) throw new Fault(4, at);
                Clause c = new Clause();
                c.letter = text.charAt(at++);
                int from = at;
                if (c.letter != 'k') scanE(0);
                c.e = text.substring(from, at);
                eat("(");
                from = at;
                scanC(1);
                c.c = text.substring(from, at);
                eat(")");
                list.add(c);
                if (at == text.length()) break;
                eat(";");
            } while (true);
        } catch (Fault f) {
            return f.code;
        }
        law = list;
        return list.size();
    }

    private void openOne(int open) {
        if (open == 6) throw new Fault(5, at);
        at++;
    }

    private void scanC(int open) {
        while (true) {
            scanPiece(open);
            if (look() != '|' && look() != '&') return;
            at++;
        }
    }

    private void scanPiece(int open) {
        if (look() == '!') {
            openOne(open);
            scanPiece(open + 1);
        } else if (look() == '(') {
            openOne(open);
            scanC(open + 1);
            eat(")");
        } else {
            scanE(open);
            eat("<>=");
            scanE(open);
        }
    }

    private void scanE(int open) {
        while (true) {
            if (look() == '[') {
                openOne(open);
                scanE(open + 1);
                eat("]");
            } else if (in(look(), '0', '9')) {
                int from = at;
                while (in(look(), '0', '9')) {
                    if (at - from == 5) throw new Fault(2, at);
                    at++;
                }
            } else {
                eat("rntgmcyhpvol");
            }
            if ("+-*/%".indexOf(look()) < 0) return;
            at++;
        }
    }

    // ---- reckoning: straight from the text, with a map of letters

    private int[] let = new int[128];

    private boolean holds(String c) {
        text = c;
        at = 0;
        try {
            return either(true);
        } catch (Refused r) {
            return false;
        }
    }

    private int amount(String e) {
        text = e;
        at = 0;
        try {
            return sum(true);
        } catch (Refused r) {
            return 0;
        }
    }

    private boolean either(boolean live) {
        boolean any = part(live);
        while (look() == '|') {
            at++;
            boolean next = part(live && !any);
            any = any || next;
        }
        return any;
    }

    private boolean part(boolean live) {
        boolean all = piece(live);
        while (look() == '&') {
            at++;
            boolean next = piece(live && all);
            all = all && next;
        }
        return all;
    }

    private boolean piece(boolean live) {
        if (look() == '!') {
            at++;
            return !piece(live);
        }
        if (look() == '(') {
            at++;
            boolean b = either(live);
            at++;
            return b;
        }
        int left = sum(live);
        char sign = text.charAt(at++);
        int right = sum(live);
        return sign == '<' ? left < right : sign == '>' ? left > right : left == right;
    }

    private int sum(boolean live) {
        int v = product(live);
        while (look() == '+' || look() == '-') {
            boolean plus = text.charAt(at++) == '+';
            int w = product(live);
            v = plus ? v + w : v - w;
        }
        return v;
    }

    private int product(boolean live) {
        int v = factor(live);
        while (look() == '*' || look() == '/' || look() == '%') {
            char sign = text.charAt(at++);
            int w = factor(live);
            if (sign == '*') {
                v = v * w;
            } else if (w == 0) {
                if (live) throw new Refused();
            } else {
                v = sign == '/' ? v / w : v % w;
            }
        }
        return v;
    }

    private int factor(boolean live) {
        if (look() == '[') {
            at++;
            int v = sum(live);
            at++;
            return v;
        }
        if (!in(look(), '0', '9')) return let[text.charAt(at++)];
        int v = 0;
        while (in(look(), '0', '9')) v = 10 * v + text.charAt(at++) - '0';
        return v;
    }

    private int first(char letter, int top) {
        for (Clause c : law) {
            if (c.letter == letter && holds(c.c)) return Math.max(0, Math.min(top, amount(c.e)));
        }
        return 0;
    }

    private void scene(int g, int n, int r, boolean chain) {
        Arrays.fill(let, 0);
        let['r'] = r;
        let['n'] = n;
        let['t'] = s.cats[r];
        let['g'] = g;
        let['m'] = s.ghost[g][1];
        let['c'] = s.ghost[g][2];
        let['y'] = s.ghost[g][3];
        let['h'] = chain ? 1 : 0;
    }

    private int inRoom(int r, int n) {
        int k = 0;
        for (int p = 0; p < 10; p++) if (toldP(p) && s.bed[p][n] == r) k++;
        return k;
    }

    /** -2: not frightened. */
    int scare(int g, int p, int n, int r, boolean chain) {
        int kind = s.ghost[g][0];
        int bed = s.bed[p][n];
        if (bed == 255 || Math.abs(bed - r) > (kind == 2 ? 1 : 0)) return -2;
        if (kind == 3 || kind == 4 && !chain || kind == 1 && inRoom(bed, n) > 1) return -2;
        scene(g, n, bed, chain);
        let['p'] = p;
        let['v'] = s.nerves[p];
        let['o'] = inRoom(bed, n);
        boolean any = false;
        for (Clause c : law) any = any || c.letter == 'k' && holds(c.c);
        return any ? first('f', 99) : -2;
    }

    int scareAll(int g, int n, int r, boolean chain) {
        int all = 0;
        for (int p = 0; p < 10; p++) if (toldP(p)) all += Math.max(0, scare(g, p, n, r, chain));
        return all;
    }

    int bits(int g, int n, int r) {
        int b = 0;
        for (int p = 0; p < 10; p++) if (toldP(p) && scare(g, p, n, r, false) >= 0) b |= 1 << p;
        return b;
    }

    boolean counts(int i) {
        Walk w = rota.get(i);
        for (int j = 0; j < i; j++) if (rota.get(j).g == w.g && rota.get(j).n == w.n) return false;
        return toldG(w.g);
    }

    List<Walk> goers(int night) {
        List<Walk> list = new ArrayList<>();
        for (int i = 0; i < rota.size(); i++) if (counts(i) && rota.get(i).n == night) list.add(rota.get(i));
        return list;
    }

    boolean yields(Walk w) {
        for (Walk o : goers(w.n)) {
            int older = s.ghost[o.g][3] - s.ghost[w.g][3];
            if (o.g != w.g && o.r == w.r && (older > 0 || older == 0 && o.g < w.g)) return true;
        }
        return false;
    }

    // ---- the week

    static final class Run {
        long[] total = new long[5];
        long[] fright = new long[10];
        long[] sighs = new long[10];
        long[] wages = new long[10];
        long[] night = new long[7];
        int x;
    }

    Run run() {
        Run u = new Run();
        u.x = s.x;
        for (int n = 0; n < 7; n++) {
            int left = s.chains;
            for (Walk w : goers(n)) {
                boolean chain = w.chain && left > 0;
                if (chain) left--;
                if (yields(w)) {
                    u.total[4]++;
                    continue;
                }
                u.x = (int) ((25173L * u.x + 13849) % 65536);
                scene(w.g, n, w.r, chain);
                if (u.x % 10 < first('z', 10)) {
                    u.total[3]++;
                    continue;
                }
                for (int p = 0; p < 10; p++) {
                    int f = toldP(p) ? scare(w.g, p, n, w.r, chain) : -2;
                    if (f < 0) continue;
                    u.total[0] += f;
                    u.total[2]++;
                    u.fright[p] += f;
                    u.sighs[w.g]++;
                    u.night[n] += f;
                }
                scene(w.g, n, w.r, chain);
                int pay = first('w', 999) * (s.souls == n ? 2 : 1);
                u.total[1] += pay;
                u.wages[w.g] += pay;
            }
        }
        return u;
    }

    int week(int what) {
        Run u = run();
        if (in(what, 0, 4)) return (int) u.total[what];
        if (in(what, 10, 19) && toldP(what - 10)) return (int) u.fright[what - 10];
        if (in(what, 20, 29) && toldG(what - 20)) return (int) u.sighs[what - 20];
        if (in(what, 30, 39) && toldG(what - 30)) return (int) u.wages[what - 30];
        if (in(what, 40, 46)) return (int) u.night[what - 40];
        return -1;
    }

    int live() {
        Run u = run();
        for (int i = 0; i < 5; i++) s.total[i] += u.total[i];
        for (int i = 0; i < 10; i++) {
            s.fright[i] += u.fright[i];
            s.sighs[i] += u.sighs[i];
            s.wages[i] += u.wages[i];
        }
        s.weeks++;
        s.x = u.x;
        return (int) u.total[0];
    }

    int soFar(int what) {
        if (in(what, 0, 4)) return (int) s.total[what];
        if (what == 5) return s.weeks;
        if (in(what, 10, 19) && toldP(what - 10)) return (int) s.fright[what - 10];
        if (in(what, 20, 29) && toldG(what - 20)) return (int) s.sighs[what - 20];
        if (in(what, 30, 39) && toldG(what - 30)) return (int) s.wages[what - 30];
        return -1;
    }

    // ---- questions

    private int[] rowNow;
    private int[] rowBest;
    private int countBest;
    private int[][] sets;

    private void tryOnce(int g, int left, int used) {
        // rows come in rising order, so that a later one is better by fewer ghosts alone
        if (used >= countBest) return;
        if (g == 10) {
            if (left == 0) {
                rowBest = rowNow.clone();
                countBest = used;
            }
            return;
        }
        if (toldG(g)) {
            for (int w = 0; w < 84; w++) {
                int set = sets[g][w];
                if (set != 0 && (set & ~left) == 0) {
                    rowNow[g] = w;
                    tryOnce(g + 1, left & ~set, used + 1);
                }
            }
        }
        rowNow[g] = 84;
        tryOnce(g + 1, left, used);
    }

    int once(int sleepers, int what) {
        if (!given(sleepers) || what != -1 && !toldG(what)) return -3;
        sets = new int[10][84];
        for (int g = 0; g < 10; g++) {
            for (int w = 0; w < 84 && toldG(g); w++) sets[g][w] = bits(g, w / 12, w % 12) & sleepers;
        }
        rowNow = new int[10];
        rowBest = null;
        countBest = 99;
        tryOnce(0, sleepers, 0);
        if (rowBest == null) return -2;
        return what == -1 ? countBest : rowBest[what];
    }

    private boolean given(int sleepers) {
        if (sleepers <= 0) return false;
        for (int p = 0; p < 31; p++) if ((sleepers >> p & 1) == 1 && !toldP(p)) return false;
        return true;
    }

    int bestWalk(int g, int what) {
        if (!toldG(g) || !in(what, 0, 2)) return -1;
        for (Walk w : rota) if (w.g == g) return -1;
        int[] best = {0, 0, -1};
        for (int n = 0; n < 7; n++) {
            for (int r = 0; r < 12; r++) {
                int f = scareAll(g, n, r, false);
                if (f > best[2]) best = new int[] {n, r, f};
            }
        }
        return best[what];
    }

    int candle(int night, int sleepers, int what) {
        if (!in(night, 0, 6) || !given(sleepers) || !in(what, 0, 3)) return -1;
        int[] v = {0, -2, -2, 0};
        for (int g = 0; g < 10; g++) {
            for (int r = 0; r < 12 && toldG(g); r++) {
                if (bits(g, night, r) != sleepers) continue;
                if (v[0]++ == 0) {
                    v[1] = g;
                    v[2] = r;
                }
                v[3] |= 1 << g;
            }
        }
        return v[what];
    }

    int draughts() {
        int b = 0;
        for (int g = 0; g < 10; g++) if (toldG(g) && s.wages[g] > 0 && s.sighs[g] == 0) b |= 1 << g;
        return b;
    }

    private int gain(int g) {
        long before = run().total[0];
        int m = s.ghost[g][1];
        s.ghost[g][1] = Math.min(9, m + 1);
        long after = run().total[0];
        s.ghost[g][1] = m;
        return (int) (after - before);
    }

    int mended(int g, int what) {
        if (what == 0) return toldG(g) ? gain(g) : -100000;
        if (!in(what, 1, 2)) return -100000;
        int best = -1;
        for (int h = 0; h < 10; h++) if (toldG(h) && (best < 0 || gain(h) > gain(best))) best = h;
        return best < 0 ? -100000 : what == 1 ? best : gain(best);
    }

    int mend(int g) {
        return !toldG(g) || s.ghost[g][1] == 9 ? -1 : ++s.ghost[g][1];
    }

    int shared(int night, int what) {
        if (!in(night, 0, 6) || !in(what, 0, 1)) return -1;
        List<Walk> list = goers(night);
        int able = 0;
        for (Walk w : list) able |= 1 << w.g;
        int[][] f = new int[10][2];
        for (Walk w : list) {
            f[w.g][0] = scareAll(w.g, night, w.r, false);
            f[w.g][1] = scareAll(w.g, night, w.r, true);
        }
        int best = -1;
        int set = 0;
        for (int b = 0; b < 1024; b++) {
            if ((b & ~able) != 0 || Integer.bitCount(b) > s.chains) continue;
            int sum = 0;
            for (Walk w : list) sum += f[w.g][b >> w.g & 1];
            if (sum > best || sum == best && Integer.bitCount(b) < Integer.bitCount(set)) {
                best = sum;
                set = b;
            }
        }
        return what == 0 ? set : best;
    }

    private int[][] q;
    private int julyBest;
    private int[] julyRow;

    private void tryJuly(int l, int n, int taken, int sum, int[] now) {
        int rest = 0;
        for (int m = l; m < n; m++) rest += Arrays.stream(q[m]).max().getAsInt();
        // rows come in rising order, so that a later one must bring more
        if (sum + rest <= julyBest) return;
        if (l == n) {
            julyBest = sum;
            julyRow = now.clone();
            return;
        }
        for (int r = 0; r <= 12; r++) {
            if (r < 12 && (taken >> r & 1) == 1) continue;
            now[l] = r;
            tryJuly(l + 1, n, r == 12 ? taken : taken | 1 << r, sum + (r == 12 ? 0 : q[l][r]), now);
        }
    }

    int july(int n, int what) {
        if (!in(n, 1, 8)) return -1;
        if (!in(what, -1, n - 1)) return -2;
        q = new int[n][12];
        for (int r = 0; r < 12; r++) {
            int cold = 0;
            for (int g = 0; g < 10; g++) {
                boolean there = false;
                for (int i = 0; i < rota.size(); i++) {
                    there = there || counts(i) && rota.get(i).g == g && rota.get(i).r == r;
                }
                if (there) cold += s.ghost[g][2];
            }
            for (int l = 0; l < n; l++) {
                Arrays.fill(let, 0);
                let['r'] = r;
                let['t'] = s.cats[r];
                let['l'] = l;
                let['c'] = cold;
                q[l][r] = first('q', 999);
            }
        }
        julyBest = -1;
        tryJuly(0, n, 0, 0, new int[n]);
        return what == -1 ? julyBest : julyRow[what];
    }

    int off(int n, int d, int g) {
        List<Integer> told = new ArrayList<>();
        for (int i = 0; i < 10; i++) if (toldG(i)) told.add(i);
        if (!toldG(g) || !in(n, 1, told.size()) || !in(d, 1, 366)) return -1;
        told = told.subList(0, n);
        if (!told.contains(g)) return -2;
        int[] times = new int[10];
        for (int day = 0; day < d; day++) {
            int best = told.get(0);
            for (int h : told) {
                long mine = (long) s.ghost[h][3] * (times[best] + 1);
                if (mine > (long) s.ghost[best][3] * (times[h] + 1)) best = h;
            }
            times[best]++;
        }
        return times[g];
    }

    private static int gain(boolean second, int worth, int x, int y) {
        boolean won = second ? y > x : x >= y;
        return won ? worth - (second ? y : x) : 0;
    }

    int bids(int a, int b, int what) {
        if (!in(a, 0, 20) || !in(b, 0, 20) || !in(what, 0, 2)) return -1;
        int[] v = {0, -2, -2};
        for (int x = 1; x < 10; x++) {
            for (int y = 1; y < 10; y++) {
                boolean calm = true;
                for (int z = 1; z < 10; z++) {
                    calm &= gain(false, a, z, y) <= gain(false, a, x, y);
                    calm &= gain(true, b, x, z) <= gain(true, b, x, y);
                }
                if (calm && v[0]++ == 0) {
                    v[1] = x;
                    v[2] = y;
                }
            }
        }
        return v[what];
    }

    int odds(int night, int p, int what) {
        if (!in(night, 0, 6) || !toldP(p) || !in(what, 0, 1)) return -1;
        int left = s.chains;
        List<int[]> drawers = new ArrayList<>();
        for (Walk w : goers(night)) {
            boolean chain = w.chain && left > 0;
            if (chain) left--;
            if (yields(w)) continue;
            scene(w.g, night, w.r, chain);
            int z = first('z', 10);
            drawers.add(new int[] {z, scare(w.g, p, night, w.r, chain) >= 0 ? 1 : 0});
        }
        if (drawers.size() > 4) return -2;
        int all = 1;
        for (int i = 0; i < drawers.size(); i++) all *= 10;
        int hit = 0;
        for (int draw = 0; draw < all; draw++) {
            boolean frightened = false;
            int rest = draw;
            for (int[] d : drawers) {
                frightened |= d[1] == 1 && rest % 10 >= d[0];
                rest /= 10;
            }
            if (frightened) hit++;
        }
        int div = 1;
        for (int k = 1; k <= all; k++) if (all % k == 0 && hit % k == 0) div = k;
        return (what == 0 ? hit : all) / div;
    }

    int seed(int x) {
        if (!in(x, 0, 65535)) return 0;
        s.x = x;
        return 1;
    }

    int keep() {
        kept = s.copy();
        return s.weeks;
    }

    int undo() {
        if (kept == null) return 0;
        s = kept.copy();
        return 1;
    }

    int check(int n) {
        if (!in(n, 0, 10) || tape.size() < 4 * n) return -2;
        int bad = -1;
        for (int p = 0; p < n && bad < 0; p++) {
            int v = 0;
            for (int k = 0; k < 4; k++) v = v << 8 | tape.get(4 * p + k);
            if (v != (toldP(p) ? (int) s.fright[p] : 0)) bad = p;
        }
        tape.clear();
        return bad;
    }

    int walk(int i, int what) {
        if (i < 0 || i >= rota.size()) return -1;
        Walk w = rota.get(i);
        switch (what) {
            case 0: return w.g;
            case 1: return w.n;
            case 2: return w.r;
            case 3: return w.chain ? 1 : 0;
            case 4: return counts(i) ? 1 : 0;
            default: return -1;
        }
    }

    int fright(int g, int p, int night, int room, int what) {
        if (!toldG(g) || !toldP(p) || !in(night, 0, 6) || !in(room, 0, 11) || !in(what, 0, 1)) return -1;
        return scare(g, p, night, room, what == 1);
    }

    int count(int what) {
        int g = 0;
        int p = 0;
        for (int i = 0; i < 10; i++) {
            g |= toldG(i) ? 1 << i : 0;
            p |= toldP(i) ? 1 << i : 0;
        }
        int[] v = {rota.size(), law.size(), tape.size(), s.x, s.chains, s.souls, g, p};
        if (in(what, 0, 7)) return v[what];
        if (in(what, 10, 21)) return s.cats[what - 10];
        if (in(what, 30, 59) && toldG(what % 10)) return s.ghost[what % 10][new int[] {1, 0, 3}[what / 10 - 3]];
        if (in(what, 100, 169) && toldP(what % 10)) return s.bed[what % 10][(what - 100) / 10];
        return -1;
    }
}
