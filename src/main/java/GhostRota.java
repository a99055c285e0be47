import java.util.Arrays;

/** An almshouse of ghosts on half pay: see ../shared/DOC.md, whose words the names here follow. */
public final class GhostRota {
    public static final int NONE = -1;

    private static final int ROOMS = 12;
    private static final int NIGHTS = 7;
    private static final int SLEEPERS = 10;
    private static final int GHOSTS = 10;
    private static final int AWAY = 255;
    private static final int NOT = -2;
    private static final int NOT_TOLD = -3;
    private static final int NO_GAIN = -100000;
    private static final int WALKS_IN_WEEK = NIGHTS * ROOMS;
    private static final int HIGHEST_DIGIT = 9;
    private static final int HIGHEST_YEARS = 999;
    private static final int HIGHEST_SEED = 65535;
    private static final int HIGHEST_BID = 9;
    private static final int HIGHEST_WORTH = 20;
    private static final int DAYS = 366;
    private static final int LODGERS = 8;

    private static final int PLAIN = 0;
    private static final int SHY = 1;
    private static final int LOUD = 2;
    private static final int DRAUGHT = 3;
    private static final int CHAINED = 4;

    /** Where in a row of sums (as the whats of week() have them) the sums of each kind begin. */
    private static final int SUM_FRIGHT = 0;
    private static final int SUM_WAGES = 1;
    private static final int SUM_SIGHS = 2;
    private static final int SUM_STRIKES = 3;
    private static final int SUM_STOOD = 4;
    private static final int SUM_WEEKS = 5;
    private static final int BY_SLEEPER = 10;
    private static final int SIGHS_BY_GHOST = 20;
    private static final int WAGES_BY_GHOST = 30;
    private static final int BY_NIGHT = 40;

    private final House house = new House();
    private final House memory = new House();
    private boolean remembered;
    private final Tape tape = new Tape();
    private final Walks walks = new Walks();
    private final Walks walksRead = new Walks();
    private final Law rules = new Law();
    private final Law rulesRead = new Law();
    private final LawReader reader = new LawReader(tape, rulesRead);
    private final Dread dread = new Dread(house, rules);
    private final Week week = new Week(house, walks, dread);
    private final Cover cover = new Cover(house, dread);
    private final Letting letting = new Letting();
    private final int[] row = new int[GHOSTS];

    public GhostRota() {
    }

    public boolean cats(int room, int n) {
        if (!isRoom(room) || !isDigit(n)) {
            return false;
        }
        house.cats[room] = n;
        return true;
    }

    public boolean allSouls(int night) {
        if (night != NONE && !isNight(night)) {
            return false;
        }
        house.souls = night;
        return true;
    }

    public boolean chains(int n) {
        if (!isDigit(n)) {
            return false;
        }
        house.chains = n;
        return true;
    }

    public boolean sleeper(int p, int nerves) {
        if (p < 0 || p >= SLEEPERS || !isDigit(nerves)) {
            return false;
        }
        house.tellSleeper(p, nerves);
        return true;
    }

    public boolean sleeps(int p, int from, int to, int room) {
        if (!house.hasSleeper(p) || from < 0 || to > NIGHTS || from >= to) {
            return false;
        }
        if (room != NONE && !isRoom(room)) {
            return false;
        }
        for (int night = from; night < to; night++) {
            house.bed[night * SLEEPERS + p] = room == NONE ? AWAY : room;
        }
        return true;
    }

    public boolean ghost(int g, int kind, int moan, int cold, int years) {
        if (g < 0 || g >= GHOSTS || kind < PLAIN || kind > CHAINED) {
            return false;
        }
        if (!isDigit(moan) || !isDigit(cold) || years < 0 || years > HIGHEST_YEARS) {
            return false;
        }
        house.tellGhost(g, kind, moan, cold, years);
        return true;
    }

    public int feed(int a, int b, int c, int d, int e) {
        if (!tape.hasSpace()) {
            return NONE;
        }
        tape.push(a);
        tape.push(b);
        tape.push(c);
        tape.push(d);
        tape.push(e);
        return tape.size;
    }

    public int rota(int n) {
        if (n < 1 || n > Walks.LONGEST || n > tape.size) {
            return NONE;
        }
        tape.open(n);
        walksRead.readFrom(tape);
        if (tape.fault != 0) {
            return tape.fault;
        }
        walks.copy(walksRead);
        return walks.size;
    }

    public int law(int n) {
        if (n < 1 || n > Law.LONGEST || n > tape.size) {
            return NONE;
        }
        tape.open(n);
        reader.readLaw();
        if (tape.fault != 0) {
            return tape.fault;
        }
        rules.copy(rulesRead);
        return rules.clauses;
    }

    public int walk(int i, int what) {
        if (i < 0 || i >= walks.size) {
            return NONE;
        }
        switch (what) {
            case 0:
                return walks.ghost[i];
            case 1:
                return walks.night[i];
            case 2:
                return walks.room[i];
            case 3:
                return walks.chain[i];
            case 4:
                return walks.isGone(i, house) ? 1 : 0;
            default:
                return NONE;
        }
    }

    public int fright(int g, int p, int night, int room, int what) {
        if (!house.hasGhost(g) || !house.hasSleeper(p) || !isNight(night) || !isRoom(room)) {
            return NONE;
        }
        if (what != 0 && what != 1) {
            return NONE;
        }
        return dread.frightOf(g, p, night, room, what);
    }

    public int week(int what) {
        if (!isSum(week.sums, what)) {
            return NONE;
        }
        week.pass();
        return week.sums[what];
    }

    public int live() {
        week.pass();
        for (int i = 0; i < house.soFar.length; i++) {
            house.soFar[i] += week.sums[i];
        }
        house.weeks++;
        house.x = week.x;
        return week.sums[SUM_FRIGHT];
    }

    public int soFar(int what) {
        if (what == SUM_WEEKS) {
            return house.weeks;
        }
        return isSum(house.soFar, what) ? house.soFar[what] : NONE;
    }

    public int once(int sleepers, int what) {
        if (!areSleepers(sleepers) || what != NONE && !house.hasGhost(what)) {
            return NOT_TOLD;
        }
        cover.fill(sleepers);
        if (!cover.isFound()) {
            return NOT;
        }
        return what == NONE ? cover.fewest(0, sleepers) : cover.walkOf(what);
    }

    public int bestWalk(int g, int what) {
        if (!house.hasGhost(g) || walks.isListed(g) || what < 0 || what > 2) {
            return NONE;
        }
        int best = NONE;
        int most = NONE;
        for (int at = 0; at < WALKS_IN_WEEK; at++) {
            int fright = dread.frightOfAll(g, at / ROOMS, at % ROOMS, 0);
            if (fright > most) {
                most = fright;
                best = at;
            }
        }
        if (what == 2) {
            return most;
        }
        return what == 0 ? best / ROOMS : best % ROOMS;
    }

    public int candle(int night, int sleepers, int what) {
        if (!isNight(night) || !areSleepers(sleepers) || what < 0 || what > 3) {
            return NONE;
        }
        int twos = 0;
        int first = NONE;
        int ghosts = 0;
        for (int g = 0; g < GHOSTS; g++) {
            int frightened = house.hasGhost(g) ? dread.frightenedBy(g, night, house.sleepers) : 0;
            for (int room = 0; room < ROOMS; room++) {
                if (dread.within(g, night, room, frightened) == sleepers) {
                    twos++;
                    first = first == NONE ? g * ROOMS + room : first;
                    ghosts |= 1 << g;
                }
            }
        }
        if (what == 0 || what == 3) {
            return what == 0 ? twos : ghosts;
        }
        if (first == NONE) {
            return NOT;
        }
        return what == 1 ? first / ROOMS : first % ROOMS;
    }

    public int draughts() {
        int bits = 0;
        for (int g = 0; g < GHOSTS; g++) {
            boolean paid = house.soFar[WAGES_BY_GHOST + g] > 0;
            if (house.hasGhost(g) && paid && house.soFar[SIGHS_BY_GHOST + g] == 0) {
                bits |= 1 << g;
            }
        }
        return bits;
    }

    public int mended(int g, int what) {
        if (what == 0 && house.hasGhost(g)) {
            return gainByMending(g);
        }
        if (what != 1 && what != 2) {
            return NO_GAIN;
        }
        int best = NO_GAIN;
        int most = NO_GAIN;
        for (int other = 0; other < GHOSTS; other++) {
            int gain = house.hasGhost(other) ? gainByMending(other) : NO_GAIN;
            if (gain > most) {
                most = gain;
                best = other;
            }
        }
        return what == 1 ? best : most;
    }

    public int mend(int g) {
        if (!house.hasGhost(g) || house.moan[g] >= HIGHEST_DIGIT) {
            return NONE;
        }
        house.moan[g]++;
        return house.moan[g];
    }

    public int shared(int night, int what) {
        if (!isNight(night) || what != 0 && what != 1) {
            return NONE;
        }
        int fright = weighChains(night);
        int ghosts = 0;
        for (int chain = 0; chain < house.chains; chain++) {
            int g = dearest();
            if (row[g] <= 0) {
                break;
            }
            ghosts |= 1 << g;
            fright += row[g];
            row[g] = 0;
        }
        return what == 0 ? ghosts : fright;
    }

    public int july(int n, int what) {
        if (n < 1 || n > LODGERS) {
            return NONE;
        }
        if (what != NONE && (what < 0 || what >= n)) {
            return NOT;
        }
        for (int room = 0; room < ROOMS; room++) {
            int cold = walks.coldOf(room, house);
            for (int lodger = 0; lodger < n; lodger++) {
                letting.worth[lodger * ROOMS + room] = dread.worthOf(lodger, room, cold);
            }
        }
        letting.fill(n);
        return what == NONE ? letting.most() : letting.roomOf(what);
    }

    public int off(int n, int d, int g) {
        if (!house.hasGhost(g) || n < 1 || n > Integer.bitCount(house.ghosts) || d < 1 || d > DAYS) {
            return NONE;
        }
        if (house.rankOf(g) >= n) {
            return NOT;
        }
        Arrays.fill(row, 0);
        for (int night = 0; night < d; night++) {
            row[nextOff(n)]++;
        }
        return row[g];
    }

    public int bids(int a, int b, int what) {
        if (a < 0 || a > HIGHEST_WORTH || b < 0 || b > HIGHEST_WORTH || what < 0 || what > 2) {
            return NONE;
        }
        int twos = 0;
        int first = 0;
        int second = 0;
        for (int bid = 1; bid <= HIGHEST_BID; bid++) {
            for (int other = 1; other <= HIGHEST_BID; other++) {
                if (isSettled(a, b, bid, other)) {
                    first = twos == 0 ? bid : first;
                    second = twos == 0 ? other : second;
                    twos++;
                }
            }
        }
        if (what == 0) {
            return twos;
        }
        if (twos == 0) {
            return NOT;
        }
        return what == 1 ? first : second;
    }

    public int odds(int night, int p, int what) {
        if (!isNight(night) || !house.hasSleeper(p) || what != 0 && what != 1) {
            return NONE;
        }
        return week.oddsOf(night, p, what);
    }

    public boolean seed(int x) {
        if (x < 0 || x > HIGHEST_SEED) {
            return false;
        }
        house.x = x;
        return true;
    }

    public int keep() {
        memory.copy(house);
        remembered = true;
        return house.weeks;
    }

    public boolean undo() {
        if (remembered) {
            house.copy(memory);
        }
        return remembered;
    }

    public int check(int n) {
        if (n < 0 || n > SLEEPERS || 4 * n > tape.size) {
            return NOT;
        }
        tape.open(4 * n);
        for (int p = 0; p < n; p++) {
            int due = house.hasSleeper(p) ? house.soFar[BY_SLEEPER + p] : 0;
            if (tape.numberAt(4 * p) != due) {
                return p;
            }
        }
        return NONE;
    }

    public int count(int what) {
        switch (what) {
            case 0:
                return walks.size;
            case 1:
                return rules.clauses;
            case 2:
                return tape.size;
            case 3:
                return house.x;
            case 4:
                return house.chains;
            case 5:
                return house.souls;
            case 6:
                return house.ghosts;
            case 7:
                return house.sleepers;
            default:
                return countInHouse(what);
        }
    }

    private int countInHouse(int what) {
        if (what >= 10 && what < 10 + ROOMS) {
            return house.cats[what - 10];
        }
        if (what >= 30 && what < 60 && house.hasGhost(what % 10)) {
            int g = what % 10;
            if (what < 40) {
                return house.moan[g];
            }
            return what < 50 ? house.kind[g] : house.years[g];
        }
        if (what >= 100 && what < 100 + NIGHTS * SLEEPERS && house.hasSleeper(what % SLEEPERS)) {
            return house.bed[what - 100];
        }
        return NONE;
    }

    private static boolean isRoom(int room) {
        return room >= 0 && room < ROOMS;
    }

    private static boolean isNight(int night) {
        return night >= 0 && night < NIGHTS;
    }

    private static boolean isDigit(int n) {
        return n >= 0 && n <= HIGHEST_DIGIT;
    }

    private boolean areSleepers(int bits) {
        return bits != 0 && (bits & ~house.sleepers) == 0;
    }

    /** Whether a row of sums has this one, of a sleeper or ghost that is told. */
    private boolean isSum(int[] sums, int what) {
        if (what < 0 || what >= sums.length) {
            return false;
        }
        if (what < BY_SLEEPER) {
            return what <= SUM_STOOD;
        }
        if (what < SIGHS_BY_GHOST) {
            return house.hasSleeper(what - BY_SLEEPER);
        }
        return what >= BY_NIGHT || house.hasGhost(what % 10);
    }

    private int gainByMending(int g) {
        int moan = house.moan[g];
        if (moan >= HIGHEST_DIGIT) {
            return 0;
        }
        week.pass();
        int before = week.sums[SUM_FRIGHT];
        house.moan[g] = moan + 1;
        week.pass();
        house.moan[g] = moan;
        return week.sums[SUM_FRIGHT] - before;
    }

    /** The night's fright without a chain; by how much one would make it more is left in the row, by ghosts. */
    private int weighChains(int night) {
        Arrays.fill(row, 0);
        int fright = 0;
        for (int i = 0; i < walks.size; i++) {
            if (walks.night[i] == night && walks.isGone(i, house)) {
                int g = walks.ghost[i];
                int plain = dread.frightOfAll(g, night, walks.room[i], 0);
                row[g] = dread.frightOfAll(g, night, walks.room[i], 1) - plain;
                fright += plain;
            }
        }
        return fright;
    }

    private int dearest() {
        int best = 0;
        for (int g = 1; g < GHOSTS; g++) {
            if (row[g] > row[best]) {
                best = g;
            }
        }
        return best;
    }

    /** Fractions are compared crosswise, so that nothing is rounded. */
    private int nextOff(int n) {
        int best = NONE;
        int left = n;
        for (int g = 0; g < GHOSTS && left > 0; g++) {
            if (house.hasGhost(g)) {
                left--;
                if (best == NONE || house.years[g] * (row[best] + 1) > house.years[best] * (row[g] + 1)) {
                    best = g;
                }
            }
        }
        return best == NONE ? 0 : best;
    }

    private static int gainOfFirst(int worth, int bid, int other) {
        return bid >= other ? worth - bid : 0;
    }

    private static int gainOfSecond(int worth, int bid, int other) {
        return other > bid ? worth - other : 0;
    }

    private static boolean isSettled(int a, int b, int bid, int other) {
        int first = gainOfFirst(a, bid, other);
        int second = gainOfSecond(b, bid, other);
        for (int instead = 1; instead <= HIGHEST_BID; instead++) {
            if (gainOfFirst(a, instead, other) > first || gainOfSecond(b, bid, instead) > second) {
                return false;
            }
        }
        return true;
    }

    /** All that is kept and undone together. */
    private static final class House {
        final int[] cats = new int[ROOMS];
        final int[] bed = new int[NIGHTS * SLEEPERS];
        final int[] nerves = new int[SLEEPERS];
        final int[] kind = new int[GHOSTS];
        final int[] moan = new int[GHOSTS];
        final int[] cold = new int[GHOSTS];
        final int[] years = new int[GHOSTS];
        final int[] soFar = new int[BY_NIGHT];
        int ghosts;
        int sleepers;
        int chains;
        int souls = NONE;
        int weeks;
        int x = 1;

        boolean hasGhost(int g) {
            return g >= 0 && g < GHOSTS && (ghosts >> g & 1) == 1;
        }

        boolean hasSleeper(int p) {
            return p >= 0 && p < SLEEPERS && (sleepers >> p & 1) == 1;
        }

        void tellSleeper(int p, int itsNerves) {
            sleepers |= 1 << p;
            nerves[p] = itsNerves;
            soFar[BY_SLEEPER + p] = 0;
            for (int night = 0; night < NIGHTS; night++) {
                bed[night * SLEEPERS + p] = AWAY;
            }
        }

        void tellGhost(int g, int itsKind, int itsMoan, int itsCold, int itsYears) {
            ghosts |= 1 << g;
            kind[g] = itsKind;
            moan[g] = itsMoan;
            cold[g] = itsCold;
            years[g] = itsYears;
            soFar[SIGHS_BY_GHOST + g] = 0;
            soFar[WAGES_BY_GHOST + g] = 0;
        }

        int rankOf(int g) {
            return Integer.bitCount(ghosts & (1 << g) - 1);
        }

        int companyOf(int p, int night) {
            int room = bed[night * SLEEPERS + p];
            int company = 0;
            for (int other = 0; other < SLEEPERS; other++) {
                if (hasSleeper(other) && bed[night * SLEEPERS + other] == room) {
                    company++;
                }
            }
            return company;
        }

        void copy(House from) {
            System.arraycopy(from.cats, 0, cats, 0, ROOMS);
            System.arraycopy(from.bed, 0, bed, 0, NIGHTS * SLEEPERS);
            System.arraycopy(from.nerves, 0, nerves, 0, SLEEPERS);
            System.arraycopy(from.kind, 0, kind, 0, GHOSTS);
            System.arraycopy(from.moan, 0, moan, 0, GHOSTS);
            System.arraycopy(from.cold, 0, cold, 0, GHOSTS);
            System.arraycopy(from.years, 0, years, 0, GHOSTS);
            System.arraycopy(from.soFar, 0, soFar, 0, BY_NIGHT);
            ghosts = from.ghosts;
            sleepers = from.sleepers;
            chains = from.chains;
            souls = from.souls;
            weeks = from.weeks;
            x = from.x;
        }
    }

    /** The tape, and a text at its beginning that is being read: the first fault stays, and behind it all is the end. */
    private static final class Tape {
        static final int LONGEST = 220;
        static final int BYTES_FED = 20;
        static final int END = -1;
        static final int STRANGE = 1;

        private final int[] bytes = new int[LONGEST];
        int size;
        private int end;
        int at;
        int fault;

        boolean hasSpace() {
            return size + BYTES_FED <= LONGEST;
        }

        void push(int four) {
            for (int shift = 24; shift >= 0 && size < LONGEST; shift -= 8) {
                bytes[size] = four >> shift & 255;
                size++;
            }
        }

        /** The tape is empty then, but its first n bytes can be read till the next is fed. */
        void open(int n) {
            end = n;
            size = 0;
            at = 0;
            fault = 0;
        }

        int numberAt(int place) {
            if (place < 0 || place + 4 > LONGEST) {
                return 0;
            }
            return bytes[place] << 24 | bytes[place + 1] << 16 | bytes[place + 2] << 8 | bytes[place + 3];
        }

        int peek() {
            return fault == 0 && at >= 0 && at < end && at < LONGEST ? bytes[at] : END;
        }

        boolean isAtDigit() {
            return peek() >= '0' && peek() <= '9';
        }

        void failAt(int number, int place) {
            if (fault == 0) {
                fault = -1000 * number - place;
            }
        }

        void fail(int number) {
            failAt(number, at);
        }

        void takeSign(int sign) {
            if (peek() == sign) {
                at++;
            } else {
                fail(STRANGE);
            }
        }

        int takeDigit(int highest) {
            int digit = peek() - '0';
            if (digit < 0 || digit > highest) {
                fail(STRANGE);
                return 0;
            }
            at++;
            return digit;
        }

        void takeEnd() {
            if (peek() != END) {
                fail(STRANGE);
            }
        }
    }

    /** The rota. */
    private static final class Walks {
        static final int LONGEST = 160;
        static final int MOST = 16;
        static final int HIGH_ROOM = 3;
        static final int TOO_MANY = 4;

        final int[] ghost = new int[MOST];
        final int[] night = new int[MOST];
        final int[] room = new int[MOST];
        final int[] chain = new int[MOST];
        private final int[] first = new int[MOST];
        int size;

        void readFrom(Tape text) {
            size = 0;
            readWalk(text);
            for (int more = 0; more < LONGEST && text.peek() == ';'; more++) {
                text.takeSign(';');
                readWalk(text);
            }
            text.takeEnd();
        }

        private void readWalk(Tape text) {
            if (size == MOST && text.isAtDigit()) {
                text.fail(TOO_MANY);
            }
            int itsGhost = text.takeDigit(HIGHEST_DIGIT);
            text.takeSign('@');
            int itsNight = text.takeDigit(NIGHTS - 1);
            text.takeSign('-');
            int itsRoom = readRoom(text);
            boolean chained = text.peek() == '+';
            if (chained) {
                text.takeSign('+');
            }
            if (text.fault == 0) {
                add(itsGhost, itsNight, itsRoom, chained);
            }
        }

        private static int readRoom(Tape text) {
            int place = text.at;
            int itsRoom = text.takeDigit(HIGHEST_DIGIT);
            if (text.isAtDigit()) {
                itsRoom = 10 * itsRoom + text.takeDigit(HIGHEST_DIGIT);
            }
            if (itsRoom >= ROOMS) {
                text.failAt(HIGH_ROOM, place);
            }
            return itsRoom;
        }

        private void add(int itsGhost, int itsNight, int itsRoom, boolean chained) {
            if (size >= MOST) {
                return;
            }
            ghost[size] = itsGhost;
            night[size] = itsNight;
            room[size] = itsRoom;
            chain[size] = chained ? 1 : 0;
            first[size] = 1;
            for (int i = 0; i < size; i++) {
                if (ghost[i] == itsGhost && night[i] == itsNight) {
                    first[size] = 0;
                }
            }
            size++;
        }

        /** Whether a walk counts. */
        boolean isGone(int i, House house) {
            return first[i] == 1 && house.hasGhost(ghost[i]);
        }

        boolean isListed(int g) {
            for (int i = 0; i < size; i++) {
                if (ghost[i] == g) {
                    return true;
                }
            }
            return false;
        }

        /** Whether a walk falls to another's claim; who stands claims as well, as the eldest of all walks anyhow. */
        boolean isClaimed(int i, House house) {
            int g = ghost[i];
            for (int j = 0; j < size; j++) {
                boolean rival = night[j] == night[i] && room[j] == room[i] && ghost[j] != g && isGone(j, house);
                if (rival && isElder(ghost[j], g, house)) {
                    return true;
                }
            }
            return false;
        }

        private static boolean isElder(int g, int than, House house) {
            return house.years[g] > house.years[than] || house.years[g] == house.years[than] && g < than;
        }

        int coldOf(int itsRoom, House house) {
            int ghosts = 0;
            int sum = 0;
            for (int i = 0; i < size; i++) {
                int g = ghost[i];
                if (room[i] == itsRoom && isGone(i, house) && (ghosts >> g & 1) == 0) {
                    ghosts |= 1 << g;
                    sum += house.cold[g];
                }
            }
            return sum;
        }

        void copy(Walks from) {
            System.arraycopy(from.ghost, 0, ghost, 0, MOST);
            System.arraycopy(from.night, 0, night, 0, MOST);
            System.arraycopy(from.room, 0, room, 0, MOST);
            System.arraycopy(from.chain, 0, chain, 0, MOST);
            System.arraycopy(from.first, 0, first, 0, MOST);
            size = from.size;
        }
    }

    /** The law, as clauses whose E and C are rows of steps for a little machine with a stack. */
    private static final class Law {
        static final int LONGEST = 200;
        static final int MOST = 14;
        static final int LETTERS = 26;
        // a byte of the text makes one step at most, and a clause has more bytes that make none than it has DONEs
        static final int STEPS = 256;
        // seven levels, each with a sum and a product that wait for more, and a comparison
        static final int DEEPEST = 32;

        static final int NUMBER = 0;
        static final int LETTER = 1;
        static final int DONE = 2;
        static final int DENY = 3;
        static final int AND = 4;
        static final int OR = 5;
        static final int PLUS = 6;
        static final int MINUS = 7;
        static final int TIMES = 8;
        static final int OVER = 9;
        static final int REST = 10;
        static final int LESS = 11;
        static final int MORE = 12;
        static final int SAME = 13;

        private final int[] letter = new int[MOST];
        private final int[] amount = new int[MOST];
        private final int[] premise = new int[MOST];
        int clauses;
        private final int[] step = new int[STEPS];
        private final int[] with = new int[STEPS];
        int steps;
        private final int[] stack = new int[DEEPEST];

        void clear() {
            clauses = 0;
            steps = 0;
        }

        void addClause(int itsLetter, int itsAmount, int itsPremise) {
            if (clauses < MOST) {
                letter[clauses] = itsLetter;
                amount[clauses] = itsAmount;
                premise[clauses] = itsPremise;
                clauses++;
            }
        }

        void addStep(int what, int itsWith) {
            if (steps < STEPS) {
                step[steps] = what;
                with[steps] = itsWith;
                steps++;
            }
        }

        void aim(int place, int target) {
            if (place >= 0 && place < steps) {
                with[place] = target;
            }
        }

        boolean holds(int itsLetter, int[] letters) {
            for (int i = 0; i < clauses; i++) {
                if (letter[i] == itsLetter && reckon(premise[i], letters) != 0) {
                    return true;
                }
            }
            return false;
        }

        int amountOf(int itsLetter, int highest, int[] letters) {
            for (int i = 0; i < clauses; i++) {
                if (letter[i] == itsLetter && reckon(premise[i], letters) != 0) {
                    return Math.max(0, Math.min(highest, reckon(amount[i], letters)));
                }
            }
            return 0;
        }

        /** What is divided by 0 ends all with 0: a C does not hold then, an E is 0. */
        private int reckon(int from, int[] letters) {
            int top = -1;
            for (int at = from; at >= 0 && at < steps; at++) {
                int what = step[at];
                if (what == NUMBER || what == LETTER) {
                    if (top + 1 >= DEEPEST) {
                        return 0;
                    }
                    top++;
                    stack[top] = what == NUMBER ? with[at] : letterAt(with[at], letters);
                } else if (top < 0) {
                    return 0;
                } else if (what == DONE) {
                    return stack[top];
                } else if (what == DENY) {
                    stack[top] = 1 - stack[top];
                } else if (what == AND || what == OR) {
                    if ((stack[top] != 0) == (what == OR)) {
                        at = Math.max(at, with[at] - 1);
                    } else {
                        top--;
                    }
                } else {
                    int right = stack[top];
                    top--;
                    if (top < 0 || right == 0 && (what == OVER || what == REST)) {
                        return 0;
                    }
                    stack[top] = joined(what, stack[top], right);
                }
            }
            return 0;
        }

        private static int letterAt(int place, int[] letters) {
            return place >= 0 && place < letters.length ? letters[place] : 0;
        }

        private static int joined(int what, int left, int right) {
            switch (what) {
                case PLUS:
                    return left + right;
                case MINUS:
                    return left - right;
                case TIMES:
                    return left * right;
                case OVER:
                    return right == 0 ? 0 : left / right;
                case REST:
                    return right == 0 ? 0 : left % right;
                case LESS:
                    return left < right ? 1 : 0;
                case MORE:
                    return left > right ? 1 : 0;
                default:
                    return left == right ? 1 : 0;
            }
        }

        void copy(Law from) {
            System.arraycopy(from.letter, 0, letter, 0, MOST);
            System.arraycopy(from.amount, 0, amount, 0, MOST);
            System.arraycopy(from.premise, 0, premise, 0, MOST);
            System.arraycopy(from.step, 0, step, 0, STEPS);
            System.arraycopy(from.with, 0, with, 0, STEPS);
            clauses = from.clauses;
            steps = from.steps;
        }
    }

    /** Reads a law from the tape; behind a fault the tape is at its end, so that all the readers come back. */
    private static final class LawReader {
        private static final int SIXTH_DIGIT = 2;
        private static final int TOO_MANY = 4;
        private static final int TOO_DEEP = 5;
        private static final int MOST_OPEN = 6;
        private static final int MOST_DIGITS = 5;

        private final Tape text;
        private final Law into;

        LawReader(Tape text, Law into) {
            this.text = text;
            this.into = into;
        }

        void readLaw() {
            into.clear();
            readClause();
            for (int more = 0; more < Law.LONGEST && text.peek() == ';'; more++) {
                text.takeSign(';');
                readClause();
            }
            text.takeEnd();
        }

        private void readClause() {
            int letter = text.peek();
            if (letter != 'k' && letter != 'f' && letter != 'w' && letter != 'z' && letter != 'q') {
                text.fail(Tape.STRANGE);
            } else if (into.clauses == Law.MOST) {
                text.fail(TOO_MANY);
            }
            if (text.fault != 0) {
                return;
            }
            text.at++;
            int amount = into.steps;
            if (letter != 'k') {
                readSum(0);
                into.addStep(Law.DONE, 0);
            }
            text.takeSign('(');
            int premise = into.steps;
            readParts(1);
            into.addStep(Law.DONE, 0);
            text.takeSign(')');
            into.addClause(letter, amount, premise);
        }

        /** C. The steps of the |s point each to the next one, the last one to the end. */
        private void readParts(int open) {
            readPieces(open);
            int last = NONE;
            for (int more = 0; more < Law.LONGEST && text.peek() == '|'; more++) {
                last = addJump(Law.OR, '|', last);
                readPieces(open);
            }
            into.aim(last, into.steps);
        }

        private void readPieces(int open) {
            readPiece(open);
            int last = NONE;
            for (int more = 0; more < Law.LONGEST && text.peek() == '&'; more++) {
                last = addJump(Law.AND, '&', last);
                readPiece(open);
            }
            into.aim(last, into.steps);
        }

        private int addJump(int what, int sign, int last) {
            text.takeSign(sign);
            int here = into.steps;
            into.aim(last, here);
            into.addStep(what, here + 1);
            return here;
        }

        private void readPiece(int open) {
            if (text.peek() == '!') {
                if (goesDeeper(open)) {
                    readPiece(open + 1);
                    into.addStep(Law.DENY, 0);
                }
            } else if (text.peek() == '(') {
                if (goesDeeper(open)) {
                    readParts(open + 1);
                    text.takeSign(')');
                }
            } else {
                readSum(open);
                int what = comparisonAt(text.peek());
                text.at++;
                readSum(open);
                into.addStep(what, 0);
            }
        }

        private int comparisonAt(int sign) {
            if (sign != '<' && sign != '>' && sign != '=') {
                text.fail(Tape.STRANGE);
            }
            if (sign == '<') {
                return Law.LESS;
            }
            return sign == '>' ? Law.MORE : Law.SAME;
        }

        private boolean goesDeeper(int open) {
            if (open >= MOST_OPEN) {
                text.fail(TOO_DEEP);
                return false;
            }
            text.at++;
            return true;
        }

        private void readSum(int open) {
            readProduct(open);
            for (int more = 0; more < Law.LONGEST && (text.peek() == '+' || text.peek() == '-'); more++) {
                int what = text.peek() == '+' ? Law.PLUS : Law.MINUS;
                text.at++;
                readProduct(open);
                into.addStep(what, 0);
            }
        }

        private void readProduct(int open) {
            readFactor(open);
            for (int more = 0; more < Law.LONGEST && timesAt(text.peek()) != NONE; more++) {
                int what = timesAt(text.peek());
                text.at++;
                readFactor(open);
                into.addStep(what, 0);
            }
        }

        private static int timesAt(int sign) {
            if (sign == '*') {
                return Law.TIMES;
            }
            if (sign == '/') {
                return Law.OVER;
            }
            return sign == '%' ? Law.REST : NONE;
        }

        private void readFactor(int open) {
            int sign = text.peek();
            if (sign == '[') {
                if (goesDeeper(open)) {
                    readSum(open + 1);
                    text.takeSign(']');
                }
            } else if (text.isAtDigit()) {
                readNumber();
            } else if (isLetter(sign)) {
                text.at++;
                into.addStep(Law.LETTER, sign - 'a');
            } else {
                text.fail(Tape.STRANGE);
            }
        }

        private static boolean isLetter(int sign) {
            return sign >= 'a' && sign <= 'z' && "rntgmcyhpvol".indexOf((char) sign) >= 0;
        }

        private void readNumber() {
            int number = 0;
            for (int digits = 0; digits < MOST_DIGITS && text.isAtDigit(); digits++) {
                number = 10 * number + text.peek() - '0';
                text.at++;
            }
            if (text.isAtDigit()) {
                text.fail(SIXTH_DIGIT);
            }
            into.addStep(Law.NUMBER, number);
        }
    }

    /** What the law says of a ghost, a sleeper, a lodger: sets the letters and asks. */
    private static final class Dread {
        private static final int HIGHEST_FRIGHT = 99;
        private static final int HIGHEST_WAGE = 999;
        private static final int HIGHEST_TENTHS = 10;

        private final House house;
        private final Law rules;
        private final int[] letters = new int[Law.LETTERS];

        Dread(House house, Law rules) {
            this.house = house;
            this.rules = rules;
        }

        /** How much a ghost frightens a sleeper by a walk; NOT if it does not. */
        int frightOf(int g, int p, int night, int room, int chain) {
            if (!isNear(g, p, night, room)) {
                return NOT;
            }
            int company = house.companyOf(p, night);
            if (!isLet(house.kind[g], company, chain)) {
                return NOT;
            }
            tellWalk(g, night, house.bed[night * SLEEPERS + p], chain);
            tellLetter('p', p);
            tellLetter('v', house.nerves[p]);
            tellLetter('o', company);
            return rules.holds('k', letters) ? rules.amountOf('f', HIGHEST_FRIGHT, letters) : NOT;
        }

        int frightOfAll(int g, int night, int room, int chain) {
            int sum = 0;
            for (int p = 0; p < SLEEPERS; p++) {
                if (house.hasSleeper(p)) {
                    sum += Math.max(0, frightOf(g, p, night, room, chain));
                }
            }
            return sum;
        }

        /**
         * Who of these sleepers a ghost without a chain would frighten if it walked where it can: the law looks at
         * the sleeper's room, so that a walk in that one tells for the rooms next to it, too.
         */
        int frightenedBy(int g, int night, int sleepers) {
            int bits = 0;
            for (int p = 0; p < SLEEPERS; p++) {
                int bed = house.bed[night * SLEEPERS + p];
                boolean there = (sleepers >> p & 1) == 1 && bed != AWAY;
                if (there && frightOf(g, p, night, bed, 0) != NOT) {
                    bits |= 1 << p;
                }
            }
            return bits;
        }

        /** Which of these sleepers a ghost reaches from a room. */
        int within(int g, int night, int room, int sleepers) {
            int bits = 0;
            for (int p = 0; p < SLEEPERS && sleepers >> p != 0; p++) {
                if ((sleepers >> p & 1) == 1 && isNear(g, p, night, room)) {
                    bits |= 1 << p;
                }
            }
            return bits;
        }

        int wageOf(int g, int night, int room, int chain) {
            tellWalk(g, night, room, chain);
            return rules.amountOf('w', HIGHEST_WAGE, letters);
        }

        int tenthsOf(int g, int night, int room, int chain) {
            tellWalk(g, night, room, chain);
            return rules.amountOf('z', HIGHEST_TENTHS, letters);
        }

        int worthOf(int lodger, int room, int cold) {
            Arrays.fill(letters, 0);
            tellLetter('l', lodger);
            tellLetter('r', room);
            tellLetter('t', house.cats[room]);
            tellLetter('c', cold);
            return rules.amountOf('q', HIGHEST_WAGE, letters);
        }

        private boolean isNear(int g, int p, int night, int room) {
            int bed = house.bed[night * SLEEPERS + p];
            return room == bed || house.kind[g] == LOUD && (room == bed - 1 || room == bed + 1);
        }

        private static boolean isLet(int kind, int company, int chain) {
            if (kind == DRAUGHT) {
                return false;
            }
            return (kind != SHY || company == 1) && (kind != CHAINED || chain == 1);
        }

        private void tellWalk(int g, int night, int room, int chain) {
            Arrays.fill(letters, 0);
            tellLetter('r', room);
            tellLetter('n', night);
            tellLetter('t', house.cats[room]);
            tellLetter('g', g);
            tellLetter('m', house.moan[g]);
            tellLetter('c', house.cold[g]);
            tellLetter('y', house.years[g]);
            tellLetter('h', chain);
        }

        private void tellLetter(int letter, int value) {
            letters[letter - 'a'] = value;
        }
    }

    /** The week that will come, gone through without a change to the house. */
    private static final class Week {
        private static final int MOST_DRAWN = 4;

        private final House house;
        private final Walks walks;
        private final Dread dread;
        final int[] sums = new int[BY_NIGHT + NIGHTS];
        int x;
        private int chainsLeft;

        Week(House house, Walks walks, Dread dread) {
            this.house = house;
            this.walks = walks;
            this.dread = dread;
        }

        void pass() {
            Arrays.fill(sums, 0);
            x = house.x;
            for (int night = 0; night < NIGHTS; night++) {
                chainsLeft = house.chains;
                for (int i = 0; i < walks.size; i++) {
                    if (walks.night[i] == night && walks.isGone(i, house)) {
                        goOut(i);
                    }
                }
            }
        }

        private void goOut(int i) {
            int chain = chainFor(i);
            if (walks.isClaimed(i, house)) {
                sums[SUM_STOOD]++;
                return;
            }
            int g = walks.ghost[i];
            int night = walks.night[i];
            int room = walks.room[i];
            x = (25173 * x + 13849) % 65536;
            if (x % 10 < dread.tenthsOf(g, night, room, chain)) {
                sums[SUM_STRIKES]++;
                return;
            }
            for (int p = 0; p < SLEEPERS; p++) {
                int fright = house.hasSleeper(p) ? dread.frightOf(g, p, night, room, chain) : NOT;
                if (fright != NOT) {
                    sums[SUM_FRIGHT] += fright;
                    sums[BY_SLEEPER + p] += fright;
                    sums[BY_NIGHT + night] += fright;
                    sums[SUM_SIGHS]++;
                    sums[SIGHS_BY_GHOST + g]++;
                }
            }
            int wage = dread.wageOf(g, night, room, chain) * (night == house.souls ? 2 : 1);
            sums[SUM_WAGES] += wage;
            sums[WAGES_BY_GHOST + g] += wage;
        }

        /** A chain is gone for the night even where its walk comes to nothing. */
        private int chainFor(int i) {
            if (walks.chain[i] == 0 || chainsLeft == 0) {
                return 0;
            }
            chainsLeft--;
            return 1;
        }

        /** Draws are alike and each walk has its own, so that the chances of missing a sleeper multiply. */
        int oddsOf(int night, int p, int what) {
            int drawn = 0;
            int missing = 1;
            int all = 1;
            chainsLeft = house.chains;
            for (int i = 0; i < walks.size; i++) {
                if (walks.night[i] != night || !walks.isGone(i, house)) {
                    continue;
                }
                int chain = chainFor(i);
                if (walks.isClaimed(i, house)) {
                    continue;
                }
                drawn++;
                if (drawn > MOST_DRAWN) {
                    return NOT;
                }
                boolean frightens = dread.frightOf(walks.ghost[i], p, night, walks.room[i], chain) != NOT;
                all *= 10;
                missing *= frightens ? dread.tenthsOf(walks.ghost[i], night, walks.room[i], chain) : 10;
            }
            return reduced(all - missing, all, what);
        }

        private static int reduced(int above, int below, int what) {
            int divisor = below;
            int rest = above;
            for (int step = 0; step < 64 && rest > 0; step++) {
                int next = divisor % rest;
                divisor = rest;
                rest = next;
            }
            if (divisor <= 0) {
                return NONE;
            }
            return (what == 0 ? above : below) / divisor;
        }
    }

    /**
     * Once: for each set of sleepers by how few ghosts, from one on to the last one, it can be just covered.
     * A set's answers stand in one long, four bits for each ghost to begin with, so that an object stays small.
     */
    private static final class Cover {
        private static final int SETS = 1 << SLEEPERS;
        private static final int IMPOSSIBLE = 15;
        private static final int BITS = 4;

        private final House house;
        private final Dread dread;
        private final long[] answers = new long[SETS];
        private final int[] reach = new int[GHOSTS * WALKS_IN_WEEK];
        private final int[] seen = new int[SETS];
        private int mark;
        private int wanted;

        Cover(House house, Dread dread) {
            this.house = house;
            this.dread = dread;
        }

        int fewest(int g, int set) {
            return (int) (answers[set] >> BITS * g) & IMPOSSIBLE;
        }

        boolean isFound() {
            return fewest(0, wanted) != IMPOSSIBLE;
        }

        void fill(int sleepers) {
            wanted = sleepers & SETS - 1;
            for (int set = 0; set < SETS; set++) {
                answers[set] = (long) (set == 0 ? 0 : IMPOSSIBLE) << BITS * GHOSTS;
            }
            for (int g = GHOSTS - 1; g >= 0; g--) {
                for (int set = 0; set < SETS; set++) {
                    answers[set] |= (long) fewest(g + 1, set) << BITS * g;
                }
                if (house.hasGhost(g)) {
                    mark++;
                    useGhost(g);
                }
            }
        }

        private void useGhost(int g) {
            for (int night = 0; night < NIGHTS; night++) {
                int frightened = dread.frightenedBy(g, night, wanted);
                for (int room = 0; room < ROOMS; room++) {
                    int set = dread.within(g, night, room, frightened);
                    reach[(g * NIGHTS + night) * ROOMS + room] = set;
                    if (set != 0 && seen[set] != mark) {
                        seen[set] = mark;
                        useWalk(g, set);
                    }
                }
            }
        }

        /** Goes through all sets of the other wanted sleepers, from the greatest down to none. */
        private void useWalk(int g, int set) {
            int others = wanted & ~set;
            int left = others;
            for (int step = 0; step < SETS; step++) {
                int ghosts = fewest(g + 1, left) + 1;
                int before = fewest(g, left | set);
                if (ghosts < before) {
                    answers[left | set] ^= (long) (before ^ ghosts) << BITS * g;
                }
                if (left == 0) {
                    break;
                }
                left = left - 1 & others;
            }
        }

        /** The least row: a ghost walks if it can in a cover by fewest, as staying in counts highest. */
        int walkOf(int what) {
            int left = wanted;
            int walk = WALKS_IN_WEEK;
            for (int g = 0; g <= what && g < GHOSTS; g++) {
                walk = house.hasGhost(g) ? leastWalk(g, left) : WALKS_IN_WEEK;
                if (walk < WALKS_IN_WEEK) {
                    left ^= reach[g * WALKS_IN_WEEK + walk];
                }
            }
            return walk;
        }

        private int leastWalk(int g, int left) {
            for (int at = 0; at < WALKS_IN_WEEK; at++) {
                int set = reach[g * WALKS_IN_WEEK + at];
                if (set != 0 && (set & ~left) == 0 && fewest(g + 1, left ^ set) + 1 == fewest(g, left)) {
                    return at;
                }
            }
            return WALKS_IN_WEEK;
        }
    }

    /**
     * July: for each set of rooms that the first lodgers have taken (one each) what the others bring at most.
     * No worth is below 0 and there are more rooms than lodgers, so in the least row of the best none goes without.
     */
    private static final class Letting {
        private static final int SETS = 1 << ROOMS;

        final int[] worth = new int[LODGERS * ROOMS];
        private final int[] best = new int[SETS];
        private int lodgers;

        void fill(int n) {
            lodgers = n;
            for (int taken = SETS - 1; taken >= 0; taken--) {
                int lodger = Integer.bitCount(taken);
                best[taken] = 0;
                if (lodger < lodgers) {
                    int room = bestRoom(lodger, taken);
                    best[taken] = worth[lodger * ROOMS + room] + best[taken | 1 << room];
                }
            }
        }

        int most() {
            return best[0];
        }

        int roomOf(int what) {
            int taken = 0;
            for (int lodger = 0; lodger < what; lodger++) {
                taken |= 1 << bestRoom(lodger, taken);
            }
            return bestRoom(what, taken);
        }

        /** The lowest of the rooms that bring most; fewer are taken than there are, so one is free. */
        private int bestRoom(int lodger, int taken) {
            int room = 0;
            int most = NONE;
            for (int r = 0; r < ROOMS; r++) {
                if ((taken >> r & 1) == 0) {
                    int sum = worth[lodger * ROOMS + r] + best[taken | 1 << r];
                    if (sum > most) {
                        most = sum;
                        room = r;
                    }
                }
            }
            return room;
        }
    }
}
