import java.math.BigInteger;
import java.util.ArrayDeque;
import java.util.ArrayList;
import java.util.Arrays;
import java.util.Deque;
import java.util.List;
import java.util.function.IntPredicate;
import java.util.regex.Matcher;
import java.util.regex.Pattern;

/** The document once more, written otherwise and with the Java library, to hold the class against. */
final class Model {
    static final int NONE = -1000000, BAD = -1000001, STATE = -1000002, FULL = -1000003;
    private static final int NULL = 1, PLACE = 2, KIND = 3, SIZE = 4, STORE = 5;

    record House(char sort, int spin, int rub) {
        House spun(int s) {
            return new House(sort, s, rub);
        }
    }

    record Town(List<House> row, int lash, int lean, int hour, List<Boolean> walls) {
        boolean stands(int h) {
            return row.get(h).spin() > 0;
        }

        Town with(int h, House other) {
            List<House> next = new ArrayList<>(row);
            next.set(h, other);
            return new Town(next, lash, lean, hour, walls);
        }

        Town spun(int h, int spin) {
            return with(h, row.get(h).spun(spin));
        }

        Town lashed(int h, int by) {
            return stands(h) ? spun(h, Math.min(99, row.get(h).spin() + by)) : this;
        }

        Town walled(int set) {
            List<Boolean> w = new ArrayList<>();
            for (int i = 0; i < walls.size(); i++) {
                w.add((set >> i & 1) == 1);
            }
            return new Town(row, lash, lean, hour, w);
        }

        int bits(IntPredicate p) {
            int b = 0;
            for (int h = 0; h < row.size(); h++) {
                if (p.test(h)) {
                    b += 1 << h;
                }
            }
            return b;
        }

        int standing() {
            return bits(this::stands);
        }

        int many() {
            return Integer.bitCount(standing());
        }

        int sum() {
            return row.stream().mapToInt(House::spin).sum();
        }

        int wallBits() {
            int b = 0;
            for (int i = 0; i < walls.size(); i++) {
                b += walls.get(i) ? 1 << i : 0;
            }
            return b;
        }

        int touching(int h) {
            return (h > 0 && walls.get(h - 1) ? 1 : 0) + (h < walls.size() && walls.get(h) ? 1 : 0);
        }

        boolean leans(int h) {
            return stands(h) && row.get(h).spin() < lean;
        }

        int loss(int h) {
            House x = row.get(h);
            if (!stands(h)) {
                return 0;
            }
            if (x.sort() == 'w') {
                return x.rub();
            }
            if (x.sort() == 'c') {
                return x.rub() + (x.spin() < lean ? x.rub() : 0);
            }
            if (x.sort() == 's') {
                return x.rub() == 1 ? 1 : x.rub() >> 1;
            }
            if (x.sort() == 'k' && x.spin() > 49) {
                return 0;
            }
            return 1 + touching(h);
        }

        Town hourOn() {
            int n = row.size();
            int[] s = new int[n];
            for (int h = 0; h < n; h++) {
                s[h] = Math.max(row.get(h).spin() - loss(h), 0);
            }
            for (int w = 0; w < walls.size(); w++) {
                if (walls.get(w) && s[w] > 0 && s[w + 1] > 0) {
                    int rich = s[w] > s[w + 1] ? w : w + 1;
                    int poor = rich == w ? w + 1 : w;
                    int gift = (s[rich] - s[poor]) / 4;
                    s[rich] -= gift;
                    s[poor] += gift;
                }
            }
            for (int h = 0; h < n; h++) {
                if (stands(h) && s[h] == 0 && h + 1 < n && s[h + 1] > 0) {
                    s[h + 1] = s[h + 1] <= lean ? 0 : s[h + 1] - lean;
                }
            }
            List<House> next = new ArrayList<>();
            for (int h = 0; h < n; h++) {
                next.add(row.get(h).spun(s[h]));
            }
            return new Town(next, lash, lean, hour + 1, walls);
        }

        Town hoursOn(int n) {
            Town t = this;
            for (int i = 0; i < n; i++) {
                t = t.hourOn();
            }
            return t;
        }
    }

    private final int[][] rows = new int[8][];
    private final int[] lanes = new int[8];
    private StringBuilder tape = new StringBuilder();
    private Town town;
    private final Town[] images = new Town[2];
    private Deque<Town> acts = new ArrayDeque<>();
    private int faultNumber;
    private int finding;
    private List<Integer> trace = new ArrayList<>();

    private int found(int k) {
        finding = k;
        return -1000010 - k;
    }

    private int ok(int v) {
        finding = 0;
        return v;
    }

    private static boolean in(int v, int a, int b) {
        return a <= v && v <= b;
    }

    private boolean noHouse(int h) {
        return town == null || h < 0 || h >= town.row().size();
    }

    int row(int r, int lane, int n) {
        if (!in(r, 0, 7) || !in(lane, 0, 2) || n > 40) {
            return BAD;
        }
        if (n < 0) {
            return found(SIZE);
        }
        rows[r] = new int[n];
        lanes[r] = lane;
        return ok(n);
    }

    int set(int r, int i, int v) {
        if (!in(r, 0, 7)) {
            return BAD;
        }
        if (rows[r] == null) {
            return found(NULL);
        }
        if (!in(i, 0, rows[r].length - 1)) {
            return found(PLACE);
        }
        int shift = lanes[r] == 0 ? 24 : lanes[r] == 1 ? 16 : 0;
        rows[r][i] = v << shift >> shift;
        return ok(rows[r][i]);
    }

    int copy(int a, int i, int b, int j, int n) {
        if (!in(a, 0, 7) || !in(b, 0, 7)) {
            return BAD;
        }
        if (rows[a] == null || rows[b] == null) {
            return found(NULL);
        }
        if (lanes[a] != lanes[b]) {
            return found(STORE);
        }
        if (i < 0 || j < 0 || n < 0 || (long) i + n > rows[a].length || (long) j + n > rows[b].length) {
            return found(PLACE);
        }
        int[] old = rows[a].clone();
        for (int k = 0; k < n; k++) {
            rows[b][j + k] = old[i + k];
        }
        return ok(n);
    }

    int drop(int r) {
        if (!in(r, 0, 7)) {
            return BAD;
        }
        if (rows[r] == null) {
            return found(NULL);
        }
        int n = rows[r].length;
        rows[r] = null;
        return ok(n);
    }

    int feed(int b) {
        if (!in(b, 0, 255)) {
            return BAD;
        }
        if (tape.length() == 100) {
            return FULL;
        }
        tape.append((char) b);
        return tape.length();
    }

    private static final Pattern TOKEN = Pattern.compile("[a-z]|[0-9]+|[,;]|[\\x00-\\xff]", Pattern.DOTALL);

    int street() {
        List<String> tokens = new ArrayList<>();
        List<Integer> places = new ArrayList<>();
        Matcher m = TOKEN.matcher(tape);
        while (m.find()) {
            tokens.add(m.group());
            places.add(m.start());
        }
        places.add(tape.length());
        tape = new StringBuilder();
        // what stands at a token's number: t n , n ; and then, again and again, sort n , n ;
        List<House> houses = new ArrayList<>();
        int[] number = new int[2];
        int lash = 0;
        int lean = 0;
        for (int k = 0; k <= tokens.size(); k++) {
            boolean end = k == tokens.size();
            String t = end ? "" : tokens.get(k);
            boolean law = k < 5;
            int fault = 0;
            switch (k % 5) {
                case 0:
                    if (end) {
                        fault = houses.isEmpty() ? 1 : 0;
                    } else if (!(law ? "t" : "wcspk").contains(t)) {
                        fault = 1;
                    } else if (houses.size() == 8) {
                        fault = 3;
                    }
                    break;
                case 1:
                case 3:
                    int at = k % 5 / 2;
                    if (!t.matches("[0-9]{1,2}")) {
                        fault = 1;
                        break;
                    }
                    number[at] = Integer.parseInt(t);
                    int least = law ? 1 - at : at;
                    int most = law ? 30 + 10 * at : at == 0 ? 99 : 9;
                    fault = in(number[at], least, most) ? 0 : 2;
                    break;
                case 2:
                    fault = t.equals(",") ? 0 : 1;
                    break;
                default:
                    fault = t.equals(";") ? 0 : 1;
                    if (law) {
                        lash = number[0];
                        lean = number[1];
                    } else if (fault == 0) {
                        houses.add(new House(tokens.get(k - 4).charAt(0), number[0], number[1]));
                    }
            }
            if (fault != 0) {
                faultNumber = fault;
                return -1000100 - places.get(k);
            }
        }
        List<Boolean> walls = new ArrayList<>();
        for (int w = 1; w < houses.size(); w++) {
            walls.add(false);
        }
        town = new Town(houses, lash, lean, 0, walls);
        acts = new ArrayDeque<>();
        return houses.size();
    }

    int fault() {
        return faultNumber;
    }

    private void act(Town next) {
        acts.push(town);
        if (acts.size() == 25) {
            acts.removeLast();
        }
        town = next;
    }

    int undo() {
        if (acts.isEmpty()) {
            return STATE;
        }
        town = acts.pop();
        return acts.size();
    }

    int hours(int n) {
        if (town == null) {
            return STATE;
        }
        if (!in(n, 1, 24)) {
            return BAD;
        }
        if (town.hour() + n >= 1000) {
            return FULL;
        }
        for (int i = 0; i < n; i++) {
            act(town.hourOn());
        }
        return town.standing();
    }

    int lash(int h) {
        if (noHouse(h)) {
            return BAD;
        }
        if (!town.stands(h)) {
            return STATE;
        }
        act(town.lashed(h, town.lash()));
        return town.row().get(h).spin();
    }

    int touch(int w, int on) {
        if (town == null || !in(w, 0, town.walls().size() - 1) || !in(on, 0, 1)) {
            return BAD;
        }
        if (town.walls().get(w) == (on == 1)) {
            return STATE;
        }
        act(town.walled(town.wallBits() ^ 1 << w));
        return town.wallBits();
    }

    int putUp(int h) {
        if (noHouse(h)) {
            return BAD;
        }
        if (town.stands(h)) {
            return STATE;
        }
        act(town.spun(h, 50));
        return town.standing();
    }

    int house(int h, int what) {
        if (noHouse(h) || !in(what, 0, 5)) {
            return BAD;
        }
        int[] answers = {town.row().get(h).spin(), town.row().get(h).rub(), town.stands(h) ? 0 : 1,
            town.leans(h) ? 1 : 0, town.loss(h), town.touching(h)};
        return answers[what];
    }

    int stand(int what) {
        if (town == null) {
            return STATE;
        }
        if (!in(what, 0, 5)) {
            return BAD;
        }
        int[] answers = {town.standing(), town.bits(town::leans), town.wallBits(), town.sum(), town.lash(),
            town.lean()};
        return answers[what];
    }

    int ahead(int h, int n) {
        return noHouse(h) || !in(n, 0, 60) ? BAD : town.hoursOn(n).row().get(h).spin();
    }

    int when(int h, int how) {
        if (noHouse(h) || !in(how, 0, 1)) {
            return BAD;
        }
        for (int n = 0; n <= 60; n++) {
            Town t = town.hoursOn(n);
            if (how == 0 ? !t.stands(h) : t.leans(h)) {
                return n;
            }
        }
        return NONE;
    }

    int first(int what) {
        if (town == null) {
            return STATE;
        }
        if (!in(what, 0, 1)) {
            return BAD;
        }
        int best = 61;
        int who = NONE;
        for (int h = 0; h < town.row().size(); h++) {
            int n = when(h, 0);
            if (n > 0 && n < best) {
                best = n;
                who = h;
            }
        }
        return who == NONE || what == 0 ? who : best;
    }

    int left(int n) {
        if (town == null) {
            return STATE;
        }
        return in(n, 0, 60) ? town.hoursOn(n).standing() : BAD;
    }

    int round(int house, int n, int k) {
        if (noHouse(house) || !in(n, 1, 7) || k < -2) {
            return BAD;
        }
        if (k >= n) {
            return NONE;
        }
        int best = -1;
        String bestRow = "";
        int rows = (int) Math.pow(3, n);
        // backward, so that of several the first comes last
        for (int code = rows - 1; code >= 0; code--) {
            String row = String.format("%7s", Integer.toString(code, 3)).replace(' ', '0').substring(7 - n);
            int value = roundValue(house, row);
            if (value >= best) {
                best = value;
                bestRow = row;
            }
        }
        return k == -1 ? best / 1000 : k == -2 ? best % 1000 : bestRow.charAt(k) - '0';
    }

    private int roundValue(int house, String row) {
        int at = house;
        Town t = town;
        for (char c : row.toCharArray()) {
            at += c - '1';
            if (at < 0 || at >= town.row().size()) {
                return -2;
            }
            t = t.lashed(at, t.lash()).hourOn();
        }
        int least = t.row().stream().mapToInt(House::spin).filter(s -> s > 0).min().orElse(0);
        return t.many() * 1000 + least;
    }

    int walls(int n, int what) {
        if (town == null) {
            return STATE;
        }
        if (!in(n, 1, 60) || !in(what, 0, 1)) {
            return BAD;
        }
        int[] best = null;
        for (int set = 0; set < 1 << town.walls().size(); set++) {
            int[] one = {-town.walled(set).hoursOn(n).many(), Integer.bitCount(set), set};
            if (best == null || Arrays.compare(one, best) < 0) {
                best = one;
            }
        }
        return what == 0 ? best[2] : -best[0];
    }

    int steady(int n, int what) {
        if (town == null) {
            return STATE;
        }
        if (!in(n, 1, 60) || !in(what, 0, 1)) {
            return BAD;
        }
        int[] best = {NONE, NONE};
        for (int h = town.row().size() - 1; h >= 0; h--) {
            if (town.stands(h)) {
                int many = town.spun(h, 99).hoursOn(n).many();
                if (many >= best[1]) {
                    best = new int[] {h, many};
                }
            }
        }
        return best[what];
    }

    int boys(int n, int m) {
        if (town == null) {
            return STATE;
        }
        return in(n, 0, 4) && in(m, 1, 20) ? turn(town, 0, n, m) : BAD;
    }

    private static int turn(Town t, int done, int n, int m) {
        if (done == n) {
            Town end = t.hoursOn(m);
            int lead = 0;
            int sign = 1;
            for (House h : end.row()) {
                lead += sign * h.spin();
                sign = -sign;
            }
            return lead;
        }
        List<Integer> all = new ArrayList<>();
        all.add(turn(t, done + 1, n, m));
        for (int h = 0; h < t.row().size(); h++) {
            if (h % 2 == done % 2 && t.stands(h)) {
                all.add(turn(t.lashed(h, t.lash()), done + 1, n, m));
            }
        }
        return done % 2 == 0 ? all.stream().max(Integer::compare).get() : all.stream().min(Integer::compare).get();
    }

    int string(int house, int n) {
        if (noHouse(house) || !in(n, 0, 999)) {
            return BAD;
        }
        int size = town.row().size();
        int[] lack = new int[size];
        for (int h = 0; h < size; h++) {
            lack[h] = town.stands(h) ? 99 - town.row().get(h).spin() : 0;
        }
        int all = Arrays.stream(lack).sum();
        if (all == 0) {
            return 0;
        }
        int[] share = Arrays.stream(lack).map(l -> n * l / all).toArray();
        int over = n - Arrays.stream(share).sum();
        for (int h = 0; h < size && over > 0; h++) {
            if (lack[h] > 0) {
                share[h]++;
                over--;
            }
        }
        return share[house];
    }

    private int spanFinding(int r, int i, int n) {
        if (rows[r] == null) {
            return NULL;
        }
        return i < 0 || (long) i + n > rows[r].length ? PLACE : 0;
    }

    private static boolean hums(Town t, int h, int[] items, int from, int n) {
        for (int k = 1; k <= n; k++) {
            if (t.hoursOn(k).row().get(h).spin() != items[from + k - 1]) {
                return false;
            }
        }
        return true;
    }

    int who(int h, int which, int r, int i, int n) {
        if (noHouse(h) || !in(which, 0, 4) || !in(r, 0, 7) || !in(n, 1, 12)) {
            return BAD;
        }
        int f = spanFinding(r, i, n);
        if (f != 0) {
            return found(f);
        }
        House x = town.row().get(h);
        int bits = 0;
        List<Integer> spins = new ArrayList<>();
        if (which == 0) {
            for (int k = 1; k <= 5; k++) {
                House y = new House(" wcspk".charAt(k), x.spin(), x.rub());
                bits += hums(town.with(h, y), h, rows[r], i, n) ? 1 << k : 0;
            }
        } else if (which == 1) {
            for (int k = 1; k <= 9; k++) {
                House y = new House(x.sort(), x.spin(), k);
                bits += hums(town.with(h, y), h, rows[r], i, n) ? 1 << k : 0;
            }
        } else {
            for (int k = 0; k <= 99; k++) {
                if (hums(town.spun(h, k), h, rows[r], i, n)) {
                    spins.add(k);
                }
            }
        }
        if (which < 2) {
            return ok(bits);
        }
        if (which == 2) {
            return ok(spins.size());
        }
        return ok(spins.isEmpty() ? NONE : spins.get(which == 3 ? 0 : spins.size() - 1));
    }

    int finger(int h, int r, int i, int n) {
        if (noHouse(h) || !in(r, 0, 7) || !in(n, 1, 12)) {
            return BAD;
        }
        int f = spanFinding(r, i, n);
        if (f != 0) {
            return found(f);
        }
        int bits = town.bits(k -> town.stands(k)
            && hums(town.spun(k, town.row().get(k).spin() / 2), h, rows[r], i, n));
        return ok(bits + (hums(town, h, rows[r], i, n) ? 256 : 0));
    }

    int lashes(int h, int other, int r, int i, int n) {
        if (noHouse(h) || noHouse(other) || !in(r, 0, 7) || !in(n, 1, 12)) {
            return BAD;
        }
        if (!town.stands(other)) {
            return STATE;
        }
        int f = spanFinding(r, i, n);
        if (f != 0) {
            return found(f);
        }
        int bits = 0;
        for (int by = 1; by <= 30; by++) {
            bits += hums(town.lashed(other, by), h, rows[r], i, n) ? 1 << by - 1 : 0;
        }
        return ok(bits);
    }

    long crack(int h, int n, int p, int what) {
        if (noHouse(h) || !in(n, 0, 30) || !in(p, 0, 10) || !in(what, 0, 1)) {
            return BAD;
        }
        long above = cracked(town, 0, h, n, p);
        long below = 1;
        for (int k = 0; k < town.row().size(); k++) {
            below *= 10;
        }
        long g = BigInteger.valueOf(above).gcd(BigInteger.valueOf(below)).longValue();
        return what == 0 ? above / g : below / g;
    }

    // a house that is fallen has its ten cases, too: nothing comes of them
    private static long cracked(Town t, int from, int h, int n, int p) {
        if (from == t.row().size()) {
            return t.hoursOn(n).stands(h) ? 1 : 0;
        }
        Town half = t.spun(from, t.row().get(from).spin() / 2);
        long whole = p == 10 ? 0 : cracked(t, from + 1, h, n, p);
        return (10 - p) * whole + (p == 0 ? 0 : p * cracked(half, from + 1, h, n, p));
    }

    int drawn(int n, int seed, int what) {
        if (town == null) {
            return STATE;
        }
        if (!in(n, 0, 60) || !in(seed, 1, 999999) || !in(what, 0, 1)) {
            return BAD;
        }
        BigInteger x = BigInteger.valueOf(seed);
        Town t = town;
        for (int i = 0; i < n; i++) {
            x = x.multiply(BigInteger.valueOf(16807)).mod(BigInteger.valueOf(2147483647));
            int v = x.intValue();
            int h = v % t.row().size();
            if (t.stands(h)) {
                t = v % 2 == 0 ? t.lashed(h, t.lash()) : t;
            } else {
                t = v % 5 == 0 ? t.spun(h, 50) : t;
            }
            t = t.hourOn();
        }
        return what == 0 ? t.standing() : t.sum();
    }

    int image(int k) {
        if (!in(k, 0, 1)) {
            return BAD;
        }
        if (town == null) {
            return STATE;
        }
        images[k] = town;
        return 1;
    }

    int restore(int k) {
        if (!in(k, 0, 1)) {
            return BAD;
        }
        if (images[k] == null) {
            return STATE;
        }
        town = images[k];
        acts = new ArrayDeque<>();
        return 1;
    }

    int kind(int h) {
        return noHouse(h) ? BAD : " wcspk".indexOf(town.row().get(h).sort());
    }

    int as(int h, int kind) {
        if (noHouse(h) || !in(kind, 0, 5)) {
            return BAD;
        }
        String[] are = {"wcspk", "wcs", "c", "s", "pk", "k"};
        return are[kind].indexOf(town.row().get(h).sort()) >= 0 ? ok(h) : found(KIND);
    }

    int ask(int h, int what) {
        if (noHouse(h) || !in(what, 0, 1)) {
            return BAD;
        }
        trace = new ArrayList<>();
        Lent x = switch (town.row().get(h).sort()) {
            case 'w' -> new Wood(h);
            case 'c' -> new Cracked(h);
            case 's' -> new Steel(h);
            case 'p' -> new Parish(h);
            default -> new Church(h);
        };
        return what == 0 ? x.size() : x.mark();
    }

    int trace(int i) {
        return in(i, 0, Math.min(16, trace.size()) - 1) ? trace.get(i) : NONE;
    }

    int count(int what) {
        switch (what) {
            case 0: return (int) Arrays.stream(rows).filter(r -> r != null).count();
            case 1: return town == null ? 0 : town.row().size();
            case 2: return town == null ? 0 : town.hour();
            case 3: return town == null ? 0 : town.many();
            case 4: return town == null ? 0 : town.sum();
            case 5: return town == null ? 0 : town.wallBits();
            case 6: return acts.size();
            case 7: return tape.length();
            default: return BAD;
        }
    }

    int status() {
        return finding;
    }

    private class Lent {
        final int h;

        Lent(int h) {
            this.h = h;
        }

        int size() {
            trace.add(10);
            return town.row().get(h).rub();
        }

        int mark() {
            trace.add(20);
            return h;
        }
    }

    private class Wood extends Lent {
        Wood(int h) {
            super(h);
        }

        @Override int size() {
            trace.add(11);
            return super.size() + mark();
        }

        @Override int mark() {
            trace.add(21);
            return super.mark() + town.row().get(h).spin();
        }
    }

    private class Cracked extends Wood {
        Cracked(int h) {
            super(h);
        }

        @Override int size() {
            trace.add(12);
            return 0 - super.size();
        }

        @Override int mark() {
            trace.add(24);
            return 2 * super.mark();
        }
    }

    private class Steel extends Wood {
        Steel(int h) {
            super(h);
        }

        @Override int mark() {
            trace.add(22);
            return super.mark() - 1000;
        }
    }

    private class Parish extends Lent {
        Parish(int h) {
            super(h);
        }

        @Override int size() {
            trace.add(13);
            return super.size() - 100;
        }

        @Override int mark() {
            trace.add(23);
            return super.mark() - size();
        }
    }

    private class Church extends Parish {
        Church(int h) {
            super(h);
        }

        @Override int size() {
            trace.add(14);
            return 2 * super.size();
        }
    }
}
