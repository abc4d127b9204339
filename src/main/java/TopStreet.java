/** A street of houses that stand on spinning tops; the document ../shared/DOC.md says what each call does. */
public final class TopStreet {
    public static final int NONE = -1000000, BAD = -1000001, STATE = -1000002, FULL = -1000003;

    private static final int FOUND = -1000010;
    private static final int FAULTY = -1000100;
    private static final int NULL = 1, PLACE = 2, KIND = 3, SIZE = 4, STORE = 5;

    private static final int ROWS = 8, ITEMS = 40, BYTES = 100, HOUSES = 8, ACTS = 24, IMAGES = 2;
    private static final int MOST_SPIN = 99, PUT_UP_SPIN = 50, CHURCH_SLEEPS = 50;
    private static final int LAST_HOUR = 999, FAR = 60, HUM = 12, LASHES = 30, SPINS = 100, RUBS = 9;
    private static final int ROUND = 7, TURNS = 4;

    private static final int WOOD = 1, CRACKED = 2, STEEL = 3, PARISH = 4, CHURCH = 5;

    private final Row[] rows = new Row[ROWS];
    private final Tape tape = new Tape();
    private final Street now = new Street();
    private final Street[] images = new Street[IMAGES];
    private final Acts acts = new Acts();
    private final Foretold foretold = new Foretold();
    private final Round rounds = new Round();
    private final Asks asks = new Asks();
    private int latestFault;
    private int latestFinding;

    public TopStreet() {
        for (int r = 0; r < ROWS; r++) {
            rows[r] = new Row();
        }
        for (int k = 0; k < IMAGES; k++) {
            images[k] = new Street();
        }
    }

    // ---- rows

    public int row(int row, int lane, int n) {
        if (!isRow(row) || !within(lane, 0, 2) || n > ITEMS) {
            return BAD;
        }
        if (n < 0) {
            return found(SIZE);
        }
        rows[row].make(lane, n);
        return fine(n);
    }

    public int set(int row, int i, int v) {
        if (!isRow(row)) {
            return BAD;
        }
        int finding = rows[row].spanFinding(i, 1);
        if (finding != 0) {
            return found(finding);
        }
        return fine(rows[row].put(i, v));
    }

    public int copy(int a, int i, int b, int j, int n) {
        if (!isRow(a) || !isRow(b)) {
            return BAD;
        }
        int finding = copyFinding(rows[a], i, rows[b], j, n);
        if (finding != 0) {
            return found(finding);
        }
        System.arraycopy(rows[a].items, i, rows[b].items, j, n);
        return fine(n);
    }

    public int drop(int row) {
        if (!isRow(row)) {
            return BAD;
        }
        if (rows[row].missing) {
            return found(NULL);
        }
        rows[row].missing = true;
        return fine(rows[row].size);
    }

    // ---- what is told

    public int feed(int letter) {
        if (!within(letter, 0, 255)) {
            return BAD;
        }
        if (tape.count >= BYTES) {
            return FULL;
        }
        return tape.add(letter);
    }

    public int street() {
        tape.read();
        tape.count = 0;
        if (tape.fault != 0) {
            latestFault = tape.fault;
            return FAULTY - tape.at;
        }
        now.take(tape.told);
        acts.forget();
        return now.houses;
    }

    public int fault() {
        return latestFault;
    }

    public int undo() {
        if (acts.count == 0) {
            return STATE;
        }
        acts.takeBack(now);
        return acts.count;
    }

    // ---- what is done

    public int hours(int n) {
        if (noStreet()) {
            return STATE;
        }
        if (!within(n, 1, 24)) {
            return BAD;
        }
        if (now.hour + n > LAST_HOUR) {
            return FULL;
        }
        for (int i = 0; i < n; i++) {
            acts.keep(now);
            now.pass();
        }
        return now.standing();
    }

    public int lash(int house) {
        if (!isHouse(house)) {
            return BAD;
        }
        if (now.spin[house] == 0) {
            return STATE;
        }
        acts.keep(now);
        now.raise(house, now.lash);
        return now.spin[house];
    }

    public int touch(int wall, int on) {
        if (!within(wall, 0, now.houses - 2) || !within(on, 0, 1)) {
            return BAD;
        }
        if ((now.walls >> wall & 1) == on) {
            return STATE;
        }
        acts.keep(now);
        now.walls ^= 1 << wall;
        return now.walls;
    }

    public int putUp(int house) {
        if (!isHouse(house)) {
            return BAD;
        }
        if (now.spin[house] != 0) {
            return STATE;
        }
        acts.keep(now);
        now.spin[house] = PUT_UP_SPIN;
        return now.standing();
    }

    public int house(int house, int what) {
        if (!isHouse(house)) {
            return BAD;
        }
        switch (what) {
            case 0: return now.spin[house];
            case 1: return now.rub[house];
            case 2: return now.spin[house] == 0 ? 1 : 0;
            case 3: return now.leans(house) ? 1 : 0;
            case 4: return now.loss(house);
            case 5: return now.wallsOf(house);
            default: return BAD;
        }
    }

    public int stand(int what) {
        if (noStreet()) {
            return STATE;
        }
        switch (what) {
            case 0: return now.standing();
            case 1: return now.leaning();
            case 2: return now.walls;
            case 3: return now.allSpin();
            case 4: return now.lash;
            case 5: return now.lean;
            default: return BAD;
        }
    }

    // ---- foretold

    public int ahead(int house, int n) {
        if (!isHouse(house) || !within(n, 0, FAR)) {
            return BAD;
        }
        return foretold.after(now, n).spin[house];
    }

    public int when(int house, int how) {
        if (!isHouse(house) || !within(how, 0, 1)) {
            return BAD;
        }
        return foretold.hoursUntil(now, house, how);
    }

    public int first(int what) {
        if (noStreet()) {
            return STATE;
        }
        if (!within(what, 0, 1)) {
            return BAD;
        }
        return foretold.firstToFall(now, what);
    }

    public int left(int n) {
        if (noStreet()) {
            return STATE;
        }
        if (!within(n, 0, FAR)) {
            return BAD;
        }
        return foretold.after(now, n).standing();
    }

    public int round(int house, int n, int k) {
        if (!isHouse(house) || !within(n, 1, ROUND) || k < -2) {
            return BAD;
        }
        if (k >= n) {
            return NONE;
        }
        rounds.search(now, house, n);
        if (k == -1) {
            return rounds.bestStanding;
        }
        return k == -2 ? rounds.bestLeast : rounds.bestMoves[k];
    }

    public int walls(int n, int what) {
        if (noStreet()) {
            return STATE;
        }
        if (!within(n, 1, FAR) || !within(what, 0, 1)) {
            return BAD;
        }
        return foretold.bestWalls(now, n, what);
    }

    public int steady(int n, int what) {
        if (noStreet()) {
            return STATE;
        }
        if (!within(n, 1, FAR) || !within(what, 0, 1)) {
            return BAD;
        }
        return foretold.bestSteadied(now, n, what);
    }

    public int boys(int n, int m) {
        if (noStreet()) {
            return STATE;
        }
        if (!within(n, 0, TURNS) || !within(m, 1, 20)) {
            return BAD;
        }
        foretold.played.take(now);
        return Foretold.play(foretold, 0, n, m);
    }

    public int string(int house, int n) {
        if (!isHouse(house) || !within(n, 0, 999)) {
            return BAD;
        }
        return now.yards(house, n);
    }

    public int who(int house, int which, int row, int i, int n) {
        if (!isHouse(house) || !within(which, 0, 4) || !isRow(row) || !within(n, 1, HUM)) {
            return BAD;
        }
        int finding = rows[row].spanFinding(i, n);
        if (finding != 0) {
            return found(finding);
        }
        foretold.listen(rows[row].items, i, n);
        if (which == 0) {
            return fine(foretold.kindsHeard(now, house));
        }
        return fine(which == 1 ? foretold.rubsHeard(now, house) : foretold.spinsHeard(now, house, which));
    }

    public int finger(int house, int row, int i, int n) {
        if (!isHouse(house) || !isRow(row) || !within(n, 1, HUM)) {
            return BAD;
        }
        int finding = rows[row].spanFinding(i, n);
        if (finding != 0) {
            return found(finding);
        }
        foretold.listen(rows[row].items, i, n);
        return fine(foretold.fingersHeard(now, house));
    }

    public int lashes(int house, int other, int row, int i, int n) {
        if (!isHouse(house) || !isHouse(other) || !isRow(row) || !within(n, 1, HUM)) {
            return BAD;
        }
        if (now.spin[other] == 0) {
            return STATE;
        }
        int finding = rows[row].spanFinding(i, n);
        if (finding != 0) {
            return found(finding);
        }
        foretold.listen(rows[row].items, i, n);
        return fine(foretold.lashesHeard(now, house, other));
    }

    public long crack(int house, int n, int p, int what) {
        if (!isHouse(house) || !within(n, 0, 30) || !within(p, 0, 10) || !within(what, 0, 1)) {
            return BAD;
        }
        return foretold.chance(now, house, n, p, what);
    }

    public int drawn(int n, int seed, int what) {
        if (noStreet()) {
            return STATE;
        }
        if (!within(n, 0, FAR) || !within(seed, 1, 999999) || !within(what, 0, 1)) {
            return BAD;
        }
        Street then = foretold.decades(now, n, seed);
        return what == 0 ? then.standing() : then.allSpin();
    }

    public int image(int k) {
        if (!within(k, 0, IMAGES - 1)) {
            return BAD;
        }
        if (noStreet()) {
            return STATE;
        }
        images[k].take(now);
        return 1;
    }

    public int restore(int k) {
        if (!within(k, 0, IMAGES - 1)) {
            return BAD;
        }
        if (images[k].houses == 0) {
            return STATE;
        }
        now.take(images[k]);
        acts.forget();
        return 1;
    }

    // ---- asked

    public int kind(int one) {
        return isHouse(one) ? now.kind[one] : BAD;
    }

    public int as(int one, int kind) {
        if (!isHouse(one) || !within(kind, 0, CHURCH)) {
            return BAD;
        }
        return isOfKind(now.kind[one], kind) ? fine(one) : found(KIND);
    }

    public int ask(int one, int what) {
        if (!isHouse(one) || !within(what, 0, 1)) {
            return BAD;
        }
        asks.turnTo(now, one);
        return what == 0 ? asks.size() : asks.mark();
    }

    public int trace(int i) {
        return within(i, 0, asks.traced - 1) ? asks.bodies[i] : NONE;
    }

    public int count(int what) {
        switch (what) {
            case 0: return rowsThere();
            case 1: return now.houses;
            case 2: return now.hour;
            case 3: return Integer.bitCount(now.standing());
            case 4: return now.allSpin();
            case 5: return now.walls;
            case 6: return acts.count;
            case 7: return tape.count;
            default: return BAD;
        }
    }

    public int status() {
        return latestFinding;
    }

    // ---- what the calls share

    private static boolean within(int v, int least, int most) {
        return v >= least && v <= most;
    }

    private static boolean isRow(int row) {
        return within(row, 0, ROWS - 1);
    }

    private boolean isHouse(int house) {
        return within(house, 0, now.houses - 1);
    }

    private boolean noStreet() {
        return now.houses == 0;
    }

    private int found(int finding) {
        latestFinding = finding;
        return FOUND - finding;
    }

    private int fine(int answer) {
        latestFinding = 0;
        return answer;
    }

    private int rowsThere() {
        int there = 0;
        for (int r = 0; r < ROWS; r++) {
            there += rows[r].missing ? 0 : 1;
        }
        return there;
    }

    private static int copyFinding(Row a, int i, Row b, int j, int n) {
        if (a.missing || b.missing) {
            return NULL;
        }
        if (a.lane != b.lane) {
            return STORE;
        }
        int from = a.spanFinding(i, n);
        return from != 0 ? from : b.spanFinding(j, n);
    }

    /** Steel and cracked ones are wood, too, churches are a parish's, too, and all are houses. */
    private static boolean isOfKind(int kind, int asked) {
        switch (asked) {
            case 0: return true;
            case WOOD: return kind == WOOD || kind == CRACKED || kind == STEEL;
            case PARISH: return kind == PARISH || kind == CHURCH;
            default: return kind == asked;
        }
    }

    /** A row keeps its room while it is missing, so that no call has to make one. */
    private static final class Row {
        final int[] items = new int[ITEMS];
        boolean missing = true;
        int lane;
        int size;

        void make(int newLane, int newSize) {
            missing = false;
            lane = newLane;
            size = newSize;
            for (int i = 0; i < ITEMS; i++) {
                items[i] = 0;
            }
        }

        int put(int i, int v) {
            if (lane == 0) {
                items[i] = (byte) v;
            } else {
                items[i] = lane == 1 ? (short) v : v;
            }
            return items[i];
        }

        /** Why n items from i on cannot be had; 0 if they can. */
        int spanFinding(int i, int n) {
            if (missing) {
                return NULL;
            }
            // i and n are each held against the size first, so that no sum of theirs can wrap around
            return i < 0 || n < 0 || i > size || n > size - i ? PLACE : 0;
        }
    }

    /**
     * The text of a street, and the reading of it; a fault ends the reading at its token.
     * The street told is never lived in, so that its hour and its walls stay 0.
     */
    private static final class Tape {
        private static final String SORTS = "wcspk";
        final Street told = new Street();
        int count;
        int at;
        int fault;
        private final int[] bytes = new int[BYTES];

        int add(int letter) {
            bytes[count] = letter;
            count++;
            return count;
        }

        /** Reads all of it into the street told; behind a fault (0: none) at is its place. */
        void read() {
            at = 0;
            fault = 0;
            told.houses = 0;
            readSign('t');
            told.lash = readNumber(1, 30);
            readSign(',');
            told.lean = readNumber(0, 40);
            readSign(';');
            readHouse();
            for (int h = 1; h <= HOUSES && fault == 0 && at < count; h++) {
                readHouse();
            }
        }

        private void readHouse() {
            int kind = readSort();
            int spin = readNumber(0, MOST_SPIN);
            readSign(',');
            int rub = readNumber(1, RUBS);
            readSign(';');
            if (fault == 0) {
                told.add(kind, spin, rub);
            }
        }

        private int readSort() {
            int kind = at < count ? SORTS.indexOf((char) bytes[at]) + 1 : 0;
            if (fault == 0 && kind > 0 && told.houses >= HOUSES) {
                fault = 3;
            }
            step(kind > 0);
            return kind;
        }

        private void readSign(int sign) {
            step(at < count && bytes[at] == sign);
        }

        private void step(boolean fits) {
            if (fault != 0) {
                return;
            }
            if (fits) {
                at++;
            } else {
                fault = 1;
            }
        }

        private int readNumber(int least, int most) {
            if (fault != 0) {
                return least;
            }
            int figures = 0;
            int value = 0;
            for (int i = at; i < count && figures < 3 && within(bytes[i], '0', '9'); i++) {
                value = 10 * value + bytes[i] - '0';
                figures++;
            }
            if (!within(figures, 1, 2)) {
                fault = 1;
            } else if (!within(value, least, most)) {
                fault = 2;
            } else {
                at += figures;
            }
            return value;
        }
    }

    /** A street as it is at one time; without houses it is none. A house is fallen just when its spin is 0. */
    private static final class Street {
        final int[] kind = new int[HOUSES];
        final int[] rub = new int[HOUSES];
        final int[] spin = new int[HOUSES];
        int houses;
        int lash;
        int lean;
        int hour;
        int walls;

        void add(int newKind, int newSpin, int newRub) {
            if (houses < HOUSES) {
                kind[houses] = newKind;
                spin[houses] = newSpin;
                rub[houses] = newRub;
                houses++;
            }
        }

        void take(Street other) {
            System.arraycopy(other.kind, 0, kind, 0, HOUSES);
            System.arraycopy(other.rub, 0, rub, 0, HOUSES);
            System.arraycopy(other.spin, 0, spin, 0, HOUSES);
            houses = other.houses;
            lash = other.lash;
            lean = other.lean;
            hour = other.hour;
            walls = other.walls;
        }

        void raise(int house, int by) {
            spin[house] = Math.min(MOST_SPIN, spin[house] + by);
        }

        boolean leans(int house) {
            return spin[house] > 0 && spin[house] < lean;
        }

        int wallsOf(int house) {
            int below = house > 0 ? walls >> house - 1 & 1 : 0;
            return below + (walls >> house & 1);
        }

        int standing() {
            int bits = 0;
            for (int h = 0; h < houses; h++) {
                bits |= spin[h] > 0 ? 1 << h : 0;
            }
            return bits;
        }

        int leaning() {
            int bits = 0;
            for (int h = 0; h < houses; h++) {
                bits |= leans(h) ? 1 << h : 0;
            }
            return bits;
        }

        int allSpin() {
            int sum = 0;
            for (int h = 0; h < houses; h++) {
                sum += spin[h];
            }
            return sum;
        }

        /** What the hour takes ahead of walls, be it more than there is. */
        int loss(int house) {
            if (spin[house] == 0) {
                return 0;
            }
            switch (kind[house]) {
                case CRACKED: return leans(house) ? 2 * rub[house] : rub[house];
                case STEEL: return Math.max(1, rub[house] / 2);
                case PARISH: return 1 + wallsOf(house);
                case CHURCH: return spin[house] >= CHURCH_SLEEPS ? 0 : 1 + wallsOf(house);
                default: return rub[house];
            }
        }

        void pass() {
            int stood = standing();
            for (int h = 0; h < houses; h++) {
                // a loss looks at nobody else's spin, so one house may lose ahead of the next
                spin[h] = Math.max(0, spin[h] - loss(h));
            }
            for (int w = 0; w + 1 < houses; w++) {
                if ((walls >> w & 1) != 0 && spin[w] > 0 && spin[w + 1] > 0) {
                    int given = (spin[w] - spin[w + 1]) / 4;
                    spin[w] -= given;
                    spin[w + 1] += given;
                }
            }
            for (int h = 0; h + 1 < houses; h++) {
                if ((stood >> h & 1) != 0 && spin[h] == 0) {
                    spin[h + 1] = Math.max(0, spin[h + 1] - lean);
                }
            }
            hour++;
        }

        void passAll(int n) {
            for (int i = 0; i < n; i++) {
                pass();
            }
        }

        private int lacking(int house) {
            return spin[house] > 0 ? MOST_SPIN - spin[house] : 0;
        }

        int yards(int house, int n) {
            int allLack = 0;
            for (int h = 0; h < houses; h++) {
                allLack += lacking(h);
            }
            if (allLack == 0) {
                return 0;
            }
            int over = n;
            int lackingBefore = 0;
            for (int h = 0; h < houses; h++) {
                over -= n * lacking(h) / allLack;
                lackingBefore += h < house && lacking(h) > 0 ? 1 : 0;
            }
            int extra = lacking(house) > 0 && lackingBefore < over ? 1 : 0;
            return n * lacking(house) / allLack + extra;
        }
    }

    /** The streets ahead of the latest acts, in a ring: the oldest gives way. */
    private static final class Acts {
        private final Street[] before = new Street[ACTS];
        private int oldest;
        int count;

        Acts() {
            for (int i = 0; i < ACTS; i++) {
                before[i] = new Street();
            }
        }

        void forget() {
            count = 0;
        }

        void keep(Street now) {
            before[(oldest + count) % ACTS].take(now);
            if (count < ACTS) {
                count++;
            } else {
                oldest = (oldest + 1) % ACTS;
            }
        }

        void takeBack(Street now) {
            if (count > 0) {
                count--;
                now.take(before[(oldest + count) % ACTS]);
            }
        }
    }

    /** What comes of a street, tried on another one, so that nothing changes. */
    private static final class Foretold {
        final Street then = new Street();
        final Street played = new Street();
        private final int[] hum = new int[HUM];
        private int humHours;

        Street after(Street now, int n) {
            then.take(now);
            then.passAll(n);
            return then;
        }

        int hoursUntil(Street now, int house, int how) {
            then.take(now);
            for (int n = 0; n <= FAR; n++) {
                if (how == 0 ? then.spin[house] == 0 : then.leans(house)) {
                    return n;
                }
                then.pass();
            }
            return NONE;
        }

        int firstToFall(Street now, int what) {
            then.take(now);
            for (int n = 1; n <= FAR; n++) {
                then.pass();
                for (int h = 0; h < now.houses; h++) {
                    if (now.spin[h] > 0 && then.spin[h] == 0) {
                        return what == 0 ? h : n;
                    }
                }
            }
            return NONE;
        }

        private int standingAfter(int n) {
            then.passAll(n);
            return Integer.bitCount(then.standing());
        }

        int bestWalls(Street now, int n, int what) {
            int best = 0;
            int most = -1;
            for (int set = 0; set < 1 << now.houses - 1; set++) {
                then.take(now);
                then.walls = set;
                int standing = standingAfter(n);
                boolean fewer = Integer.bitCount(set) < Integer.bitCount(best);
                if (standing > most || standing == most && fewer) {
                    best = set;
                    most = standing;
                }
            }
            return what == 0 ? best : most;
        }

        int bestSteadied(Street now, int n, int what) {
            int best = NONE;
            int most = NONE;
            for (int h = 0; h < now.houses; h++) {
                if (now.spin[h] > 0) {
                    then.take(now);
                    then.spin[h] = MOST_SPIN;
                    int standing = standingAfter(n);
                    if (standing > most) {
                        best = h;
                        most = standing;
                    }
                }
            }
            return what == 0 ? best : most;
        }

        /** What comes of the street played, from a turn on; it is as it was then. */
        private static int play(Foretold game, int turn, int turns, int hours) {
            if (turn >= turns || turn >= TURNS) {
                return game.evensLead(hours);
            }
            int[] spin = game.played.spin;
            int best = play(game, turn + 1, turns, hours);
            for (int h = turn % 2; h < game.played.houses; h += 2) {
                int was = spin[h];
                if (was > 0) {
                    game.played.raise(h, game.played.lash);
                    int value = play(game, turn + 1, turns, hours);
                    best = turn % 2 == 0 ? Math.max(best, value) : Math.min(best, value);
                    spin[h] = was;
                }
            }
            return best;
        }

        private int evensLead(int hours) {
            then.take(played);
            then.passAll(hours);
            int lead = 0;
            for (int h = 0; h < then.houses; h++) {
                lead += h % 2 == 0 ? then.spin[h] : -then.spin[h];
            }
            return lead;
        }

        /** Takes up the hum that is looked for; the caller has looked whether the row has it. */
        void listen(int[] items, int from, int n) {
            humHours = n;
            System.arraycopy(items, from, hum, 0, n);
        }

        private boolean isHeard(int house) {
            for (int i = 0; i < humHours; i++) {
                then.pass();
                if (then.spin[house] != hum[i]) {
                    return false;
                }
            }
            return true;
        }

        int kindsHeard(Street now, int house) {
            int bits = 0;
            for (int kind = WOOD; kind <= CHURCH; kind++) {
                then.take(now);
                then.kind[house] = kind;
                bits |= isHeard(house) ? 1 << kind : 0;
            }
            return bits;
        }

        int rubsHeard(Street now, int house) {
            int bits = 0;
            for (int rub = 1; rub <= RUBS; rub++) {
                then.take(now);
                then.rub[house] = rub;
                bits |= isHeard(house) ? 1 << rub : 0;
            }
            return bits;
        }

        int spinsHeard(Street now, int house, int which) {
            int many = 0;
            int least = NONE;
            int greatest = NONE;
            for (int spin = 0; spin < SPINS; spin++) {
                then.take(now);
                then.spin[house] = spin;
                if (isHeard(house)) {
                    least = many == 0 ? spin : least;
                    greatest = spin;
                    many++;
                }
            }
            if (which == 2) {
                return many;
            }
            return which == 3 ? least : greatest;
        }

        int fingersHeard(Street now, int house) {
            then.take(now);
            int bits = isHeard(house) ? 256 : 0;
            for (int h = 0; h < now.houses; h++) {
                if (now.spin[h] > 0) {
                    then.take(now);
                    then.spin[h] /= 2;
                    bits |= isHeard(house) ? 1 << h : 0;
                }
            }
            return bits;
        }

        int lashesHeard(Street now, int house, int other) {
            int bits = 0;
            for (int lash = 1; lash <= LASHES; lash++) {
                then.take(now);
                then.raise(other, lash);
                bits |= isHeard(house) ? 1 << lash - 1 : 0;
            }
            return bits;
        }

        long chance(Street now, int house, int n, int p, int what) {
            int standing = now.standing();
            long cases = 0;
            for (int set = 0; set < 1 << now.houses; set++) {
                if ((set & ~standing) == 0 && standsCracked(now, set, house, n)) {
                    int cracked = Integer.bitCount(set);
                    cases += power(p, cracked) * power(10 - p, Integer.bitCount(standing) - cracked);
                }
            }
            long all = power(10, Integer.bitCount(standing));
            long common = commonDivisor(all, cases);
            return (what == 0 ? cases : all) / common;
        }

        private boolean standsCracked(Street now, int set, int house, int n) {
            then.take(now);
            for (int h = 0; h < now.houses; h++) {
                then.spin[h] /= (set >> h & 1) != 0 ? 2 : 1;
            }
            then.passAll(n);
            return then.spin[house] > 0;
        }

        private static long power(int base, int exponent) {
            long product = 1;
            for (int i = 0; i < exponent; i++) {
                product *= base;
            }
            return product;
        }

        /** Of one above 0 and one of 0 or more; by 0 that is the first itself, which makes 0 be 0 by 1. */
        private static long commonDivisor(long one, long other) {
            long a = one;
            long b = other;
            for (int i = 0; i < 1000 && b > 0; i++) {
                long rest = a % b;
                a = b;
                b = rest;
            }
            return Math.max(1, a);
        }

        Street decades(Street now, int n, int seed) {
            then.take(now);
            long x = seed;
            for (int i = 0; i < n && now.houses > 0; i++) {
                x = x * 16807 % 2147483647;
                int h = (int) (x % now.houses);
                if (then.spin[h] > 0) {
                    if (x % 2 == 0) {
                        then.raise(h, then.lash);
                    }
                } else if (x % 5 == 0) {
                    then.spin[h] = PUT_UP_SPIN;
                }
                then.pass();
            }
            return then;
        }
    }

    /** The search for a boy's best round; rounds that begin alike share the hours of their beginning. */
    private static final class Round {
        private final Street[] behind = new Street[ROUND + 1];
        private final int[] moves = new int[ROUND];
        final int[] bestMoves = new int[ROUND];
        int bestStanding;
        int bestLeast;

        Round() {
            for (int i = 0; i <= ROUND; i++) {
                behind[i] = new Street();
            }
        }

        void search(Street now, int house, int n) {
            bestStanding = -1;
            bestLeast = -1;
            behind[0].take(now);
            walk(this, 0, n, house);
        }

        private static void walk(Round round, int done, int n, int at) {
            if (done >= n || done >= ROUND) {
                round.weigh(round.behind[done]);
                return;
            }
            Street here = round.behind[done];
            Street next = round.behind[done + 1];
            for (int move = 0; move <= 2; move++) {
                int goal = at + move - 1;
                if (within(goal, 0, here.houses - 1)) {
                    next.take(here);
                    if (next.spin[goal] > 0) {
                        next.raise(goal, next.lash);
                    }
                    next.pass();
                    round.moves[done] = move;
                    walk(round, done + 1, n, goal);
                }
            }
        }

        private void weigh(Street end) {
            int standing = Integer.bitCount(end.standing());
            int least = leastSpin(end);
            if (standing > bestStanding || standing == bestStanding && least > bestLeast) {
                bestStanding = standing;
                bestLeast = least;
                System.arraycopy(moves, 0, bestMoves, 0, ROUND);
            }
        }

        private static int leastSpin(Street end) {
            int least = 0;
            for (int h = 0; h < end.houses; h++) {
                if (end.spin[h] > 0 && (least == 0 || end.spin[h] < least)) {
                    least = end.spin[h];
                }
            }
            return least;
        }
    }

    /** The bodies that answer an ask of one house, and the trace that they leave. */
    private static final class Asks {
        private static final int TRACED = 16;
        final int[] bodies = new int[TRACED];
        int traced;
        private int number;
        private int kind;
        private int rub;
        private int spin;

        void turnTo(Street street, int house) {
            traced = 0;
            number = house;
            kind = street.kind[house];
            rub = street.rub[house];
            spin = street.spin[house];
        }

        private void leave(int body) {
            if (traced < TRACED) {
                bodies[traced] = body;
                traced++;
            }
        }

        int size() {
            if (kind == PARISH || kind == CHURCH) {
                return sizeInParish();
            }
            if (kind == CRACKED) {
                leave(12);
                return -woodSize();
            }
            return woodSize();
        }

        int mark() {
            return kind == PARISH || kind == CHURCH ? parishMark() : markInWood();
        }

        // what a body asks anew stays among its own kinds, so that no ask comes back to itself
        private int sizeInParish() {
            if (kind == CHURCH) {
                leave(14);
                return 2 * parishSize();
            }
            return parishSize();
        }

        private int markInWood() {
            if (kind == CRACKED) {
                leave(24);
                return 2 * woodMark();
            }
            if (kind == STEEL) {
                leave(22);
                return woodMark() - 1000;
            }
            return woodMark();
        }

        private int lentSize() {
            leave(10);
            return rub;
        }

        private int woodSize() {
            leave(11);
            int lent = lentSize();
            return lent + markInWood();
        }

        private int parishSize() {
            leave(13);
            return lentSize() - 100;
        }

        private int lentMark() {
            leave(20);
            return number;
        }

        private int woodMark() {
            leave(21);
            return lentMark() + spin;
        }

        private int parishMark() {
            leave(23);
            int lent = lentMark();
            return lent - sizeInParish();
        }
    }
}
