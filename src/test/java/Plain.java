import java.util.ArrayList;
import java.util.HashMap;
import java.util.HashSet;
import java.util.List;
import java.util.Map;
import java.util.Set;
import java.util.regex.Matcher;
import java.util.regex.Pattern;

/**
 * The document written down a second time, with the whole Java library and without thrift, so that two
 * ways to read it have to agree. Same names as the face, but for a call that Java keeps for itself.
 */
final class Plain {
    static final int BAD = -1, NO = -2, FULL = -3, NONE = -4;

    private static final class Town {
        final List<int[]> steps = new ArrayList<>();
        int w = 20, p = 20, f = 30, b = 0, k = 10, s = 30, z = 20, a = 40, r = 20, q = 20, l = 60, m = 9;
        final List<int[]> helpers = new ArrayList<>();
        final int[] passers = new int[24];
        final List<Integer> stations = new ArrayList<>();
        final List<int[]> lines = new ArrayList<>();
        final Set<Integer> lifts = new HashSet<>();
    }

    private static final class Stance implements Cloneable {
        int gone, strength, beats, bumps;
        boolean down, awake;

        Stance copy() {
            try {
                return (Stance) clone();
            } catch (CloneNotSupportedException e) {
                throw new IllegalStateException(e);
            }
        }
    }

    private record Kept(int bags, Set<Integer> lifts, Stance stance) { }

    private static final Pattern ITEM = Pattern.compile("([spbkahnqmtei])(\\d{1,2})(?:,(\\d{1,2}))?(?:,(\\d{1,2}))?;");

    private String text = "";
    private Town town = new Town();
    private Stance now = new Stance();
    private final List<Integer> row = new ArrayList<>();
    private final List<Stance> past = new ArrayList<>();
    private final List<Kept> kept = new ArrayList<>();

    Plain() {
        town.steps.add(new int[] {15, 30});
        town.steps.add(new int[] {15, 30});
        town.steps.add(new int[] {20, 25});
        start(false);
    }

    private static boolean out(int x, int low, int high) {
        return x < low || x > high;
    }

    // ---- towns

    int write(int letter) {
        if (out(letter, 32, 126)) {
            return BAD;
        }
        if (text.length() == 200) {
            return FULL;
        }
        text += (char) letter;
        return text.length();
    }

    int wipe() {
        int had = text.length();
        text = "";
        return had;
    }

    private int read(Town to) {
        int from = 0;
        while (from < text.length()) {
            Matcher item = ITEM.matcher(text).region(from, text.length());
            if (!item.lookingAt() || !take(to, item)) {
                return from;
            }
            from = item.end();
        }
        return NONE;
    }

    private static boolean take(Town to, Matcher item) {
        List<Integer> n = new ArrayList<>();
        for (int i = 2; i <= 4; i++) {
            if (item.group(i) != null) {
                n.add(Integer.parseInt(item.group(i)));
            }
        }
        char kind = item.group(1).charAt(0);
        int many = "bmti".indexOf(kind) >= 0 ? 1 : "sahnq".indexOf(kind) >= 0 ? 2 : 3;
        if (n.size() != many) {
            return false;
        }
        int x = n.get(0), y = many > 1 ? n.get(1) : 0, v = many > 2 ? n.get(2) : 0;
        switch (kind) {
            case 's':
                to.steps.add(new int[] {x, y});
                return to.steps.size() <= 12 && !out(x, 1, 30) && !out(y, 10, 60);
            case 'p':
                to.w = x;
                to.p = y;
                to.f = v;
                return !out(x, 3, 40) && !out(y, 1, 60) && v >= 1;
            case 'b':
                to.b = x;
                return x <= 40;
            case 'k':
                to.k = x;
                to.s = y;
                to.z = v;
                return x <= 40;
            case 'a':
                to.a = x;
                to.r = y;
                return x >= 1 && y >= 1;
            case 'h':
                to.helpers.add(new int[] {x, y});
                return to.helpers.size() <= 4 && x >= 1 && y <= 10;
            case 'n':
                if (x > 23 || y > 9) {
                    return false;
                }
                to.passers[x] = y;
                return true;
            case 'q':
                to.q = x;
                to.l = y;
                return true;
            case 'm':
                to.m = x;
                return x >= 1;
            case 't':
                to.stations.add(x);
                return to.stations.size() <= 7 && x <= 60;
            case 'e':
                to.lines.add(new int[] {x, y, v});
                return to.lines.size() <= 10 && x != y && Math.max(x, y) < to.stations.size() && !out(v, 1, 60);
            default:
                to.lifts.add(x);
                return x < to.stations.size();
        }
    }

    int fault() {
        return read(new Town());
    }

    int lay() {
        Town next = new Town();
        if (read(next) != NONE || next.steps.isEmpty()) {
            return NO;
        }
        town = next;
        kept.clear();
        return start(false);
    }

    int step(int s, int what) {
        return out(s, 0, town.steps.size() - 1) || out(what, 0, 1) ? BAD : town.steps.get(s)[what];
    }

    private int load() {
        return town.p + town.b + town.k;
    }

    int pram(int what) {
        Town t = town;
        int[] all = {t.w, t.p, t.f, t.b, t.k, t.s, t.z, t.a, t.r, t.q, t.l, t.m, load()};
        return out(what, 0, 12) ? BAD : all[what];
    }

    int helper(int h, int what) {
        return out(h, 0, town.helpers.size() - 1) || out(what, 0, 1) ? BAD : town.helpers.get(h)[what];
    }

    int passers(int h) {
        return out(h, 0, 23) ? BAD : town.passers[h];
    }

    int station(int t, int what) {
        if (out(t, 0, town.stations.size() - 1) || out(what, 0, 1)) {
            return BAD;
        }
        return what == 0 ? town.stations.get(t) : town.lifts.contains(t) ? 1 : 0;
    }

    // ---- the stair

    int start(boolean down) {
        now = new Stance();
        now.down = down;
        now.strength = town.a;
        row.clear();
        past.clear();
        return town.steps.size();
    }

    private static int up(double x) {
        return (int) Math.ceil(x - 1e-9);
    }

    private static int forceWith(Town t, int load, int s, int manner, boolean down) {
        int h = t.steps.get(s)[0];
        int force = manner == 0 ? up((double) load * h / t.w)
            : manner == 1 ? up((double) load * h / (2 * t.w)) : up((double) load * h / (4 * t.w));
        return down ? force + up(force / 2.0) : force;
    }

    private int bumpOf(int s, int manner, boolean down) {
        int h = town.steps.get(s)[0];
        return manner == 0 ? down ? 2 * h : h : manner == 1 ? up(h * 1.5) : 2 * h;
    }

    private static int beatsOf(int manner) {
        return manner == 0 ? 1 : manner == 1 ? 2 : 5;
    }

    private static boolean canBe(Town t, int load, int s, int manner, boolean down) {
        int h = t.steps.get(s)[0];
        if (manner == 2) {
            return true;
        }
        return (manner == 0 ? t.w >= 2 * h : t.w >= h) && forceWith(t, load, s, manner, down) <= t.f;
    }

    int force(int s, int manner, boolean down, int what) {
        if (out(s, 0, town.steps.size() - 1) || out(manner, 0, 2) || out(what, 0, 2)) {
            return BAD;
        }
        if (!canBe(town, load(), s, manner, down)) {
            return NO;
        }
        return what == 0 ? forceWith(town, load(), s, manner, down) : what == 1 ? bumpOf(s, manner, down) : beatsOf(manner);
    }

    private Stance after(Stance from, int what) {
        Stance to = from.copy();
        if (what == 3) {
            if (from.strength == town.a) {
                return null;
            }
            to.strength = town.a;
            to.beats += town.r;
            return to;
        }
        if (from.gone == town.steps.size()) {
            return null;
        }
        int s = from.down ? town.steps.size() - 1 - from.gone : from.gone;
        int force = forceWith(town, load(), s, what, from.down);
        if (!canBe(town, load(), s, what, from.down) || force > from.strength) {
            return null;
        }
        int bump = bumpOf(s, what, from.down);
        to.gone++;
        to.strength -= up(force / 8.0);
        to.beats += beatsOf(what);
        to.bumps += bump;
        to.awake = from.awake || bump > town.s || to.bumps > 10 * town.z;
        return to;
    }

    private boolean doIt(int what) {
        Stance next = after(now, what);
        if (next == null) {
            return false;
        }
        past.add(now);
        if (past.size() > 8) {
            past.remove(0);
        }
        now = next;
        return true;
    }

    int go(int manner) {
        return out(manner, 0, 2) ? BAD : doIt(manner) ? now.gone : NO;
    }

    int rest() {
        return doIt(3) ? now.strength : NO;
    }

    int undo() {
        if (past.isEmpty()) {
            return NO;
        }
        now = past.remove(past.size() - 1);
        return past.size();
    }

    int stands(int what) {
        int[] all = {now.gone, now.down ? 1 : 0, now.strength, now.beats, now.bumps, now.awake ? 1 : 0};
        return out(what, 0, 5) ? BAD : all[what];
    }

    int tell(int what) {
        if (out(what, 0, 3)) {
            return BAD;
        }
        if (row.size() == 20) {
            return FULL;
        }
        row.add(what);
        return row.size();
    }

    int noRow() {
        int had = row.size();
        row.clear();
        return had;
    }

    int judge() {
        Stance at = now;
        for (int i = 0; i < row.size(); i++) {
            at = after(at, row.get(i));
            if (at == null) {
                return i;
            }
        }
        return NONE;
    }

    // ---- alone, two

    /** For each end of a way: what it cost, by the MANNER of its first STEP (the lowest cost is kept). */
    private Map<Integer, Integer> costs(int kind, boolean down) {
        Map<List<Integer>, Integer> at = new HashMap<>();
        int n = town.steps.size();
        at.put(List.of(town.a, -1), 0);
        for (int i = 0; i < n; i++) {
            Map<List<Integer>, Integer> next = new HashMap<>();
            for (Map.Entry<List<Integer>, Integer> one : at.entrySet()) {
                for (int rest = 0; rest <= (i == 0 ? 0 : 1); rest++) {
                    int strength = rest == 1 ? town.a : one.getKey().get(0);
                    int cost = one.getValue() + (rest == 0 ? 0 : kind == 0 ? town.r : kind == 2 ? 1 : 0);
                    for (int manner = 0; manner < 3; manner++) {
                        int s = down ? n - 1 - i : i;
                        int force = forceWith(town, load(), s, manner, down);
                        if (force > strength || !canBe(town, load(), s, manner, down)) {
                            continue;
                        }
                        int bump = bumpOf(s, manner, down);
                        int then = kind == 0 ? cost + beatsOf(manner) : kind == 1 ? cost + bump
                            : kind == 2 ? cost : Math.max(cost, bump);
                        int first = i == 0 ? manner : one.getKey().get(1);
                        next.merge(List.of(strength - up(force / 8.0), first), then, Math::min);
                    }
                }
            }
            at = next;
        }
        Map<Integer, Integer> ends = new HashMap<>();
        at.forEach((key, cost) -> ends.merge(key.get(1), cost, Math::min));
        return ends;
    }

    int best(int kind, boolean down, int what) {
        if (out(kind, 0, 3) || out(what, 0, 1)) {
            return BAD;
        }
        Map<Integer, Integer> ends = costs(kind, down);
        if (ends.isEmpty()) {
            return NONE;
        }
        int least = ends.values().stream().min(Integer::compare).get();
        if (what == 0) {
            return least;
        }
        return ends.entrySet().stream().filter(e -> e.getValue() == least).mapToInt(Map.Entry::getKey).min().getAsInt();
    }

    int asleep(boolean down) {
        Map<List<Integer>, Integer> at = new HashMap<>();
        int n = town.steps.size();
        at.put(List.of(town.a, 0), 0);
        for (int i = 0; i < n; i++) {
            Map<List<Integer>, Integer> next = new HashMap<>();
            int s = down ? n - 1 - i : i;
            for (Map.Entry<List<Integer>, Integer> one : at.entrySet()) {
                for (int rest = 0; rest <= (i == 0 ? 0 : 1); rest++) {
                    int strength = rest == 1 ? town.a : one.getKey().get(0);
                    for (int manner = 0; manner < 3; manner++) {
                        int force = forceWith(town, load(), s, manner, down);
                        int bump = bumpOf(s, manner, down);
                        int bumps = one.getKey().get(1) + bump;
                        if (force > strength || !canBe(town, load(), s, manner, down) || bump > town.s || bumps > 10 * town.z) {
                            continue;
                        }
                        int beats = one.getValue() + rest * town.r + beatsOf(manner);
                        next.merge(List.of(strength - up(force / 8.0), bumps), beats, Math::min);
                    }
                }
            }
            at = next;
        }
        return at.values().stream().min(Integer::compare).orElse(NONE);
    }

    private int strain(int h, boolean helperBelow) {
        int worst = 0;
        for (int[] step : town.steps) {
            int below = Math.min(load(), up((double) load() * (step[1] + step[0]) / (2 * step[1])));
            int above = load() - below;
            int his = helperBelow ? below : above;
            int ones = helperBelow ? above : below;
            worst = Math.max(worst, up(his * 100.0 / town.helpers.get(h)[0]));
            worst = Math.max(worst, up(ones * 100.0 / town.a));
        }
        return worst;
    }

    int ends(int h, int what) {
        if (out(h, 0, town.helpers.size() - 1) || out(what, 0, 1)) {
            return BAD;
        }
        int below = strain(h, true), above = strain(h, false);
        if (below > 100 && above > 100) {
            return NONE;
        }
        return what == 0 ? above < below ? 1 : 0 : Math.min(below, above);
    }

    int mate() {
        int mate = NONE;
        for (int h = town.helpers.size() - 1; h >= 0; h--) {
            if (ends(h, 1) != NONE && (mate == NONE || ends(h, 1) <= ends(mate, 1))) {
                mate = h;
            }
        }
        return mate;
    }

    long time(int h, int part) {
        if (out(h, 0, town.helpers.size() - 1) || out(part, 0, 1)) {
            return BAD;
        }
        java.math.BigInteger above = java.math.BigInteger.valueOf(10 - town.helpers.get(h)[1]).pow(town.steps.size());
        java.math.BigInteger below = java.math.BigInteger.TEN.pow(town.steps.size());
        return (part == 0 ? above : below).divide(above.gcd(below)).longValueExact();
    }

    // ---- passers

    int some(int n, boolean asked) {
        if (out(n, 0, 9)) {
            return BAD;
        }
        if (n == 0) {
            return 0;
        }
        if (asked) {
            int y = 1000 - some(n - 1, false);
            return 1000 - (1000 - 10 * town.l) * y / 1000;
        }
        int s = 10 * town.q / n, x = 1000;
        for (int i = 0; i < n; i++) {
            x = x * (1000 - s) / 1000;
        }
        return 1000 - x;
    }

    int few() {
        int few = 9;
        for (int n = 8; n >= 1; n--) {
            few = some(n, false) >= some(few, false) ? n : few;
        }
        return few;
    }

    private int chance(int h, int minute, boolean asked) {
        int hour = h;
        for (int i = 60; i <= minute; i += 60) {
            hour = hour == 23 ? 0 : hour + 1;
        }
        return some(town.passers[hour], asked);
    }

    int within(int h, int m, boolean asked) {
        if (out(h, 0, 23) || out(m, 0, 300)) {
            return BAD;
        }
        int x = 1000;
        for (int i = 0; i < m; i++) {
            x = x * (1000 - chance(h, i, asked)) / 1000;
        }
        return 1000 - x;
    }

    int rush(boolean asked) {
        int rush = 23;
        for (int h = 22; h >= 0; h--) {
            rush = chance(h, 0, asked) >= chance(rush, 0, asked) ? h : rush;
        }
        return rush;
    }

    int await(int h, int p, boolean asked) {
        if (out(h, 0, 23) || out(p, 1, 1000)) {
            return BAD;
        }
        if (within(h, 300, asked) < p) {
            return NONE;
        }
        int m = 0;
        while (within(h, m, asked) < p) {
            m++;
        }
        return m;
    }

    int out(int h, boolean down, int what) {
        if (out(h, 0, 23) || out(what, 0, 1)) {
            return BAD;
        }
        int beats = best(0, down, 0), wait = await(h, 500, true);
        int[] minutes = {beats == NONE ? 99999 : up(beats / 12.0), town.m,
            mate() == NONE || wait == NONE ? 99999 : wait + up(town.steps.size() / 4.0)};
        int which = 0;
        for (int i = 1; i < 3; i++) {
            which = minutes[i] < minutes[which] ? i : which;
        }
        return what == 0 ? which : minutes[which];
    }

    // ---- stations, bags

    private int minutes(int a, int b, Set<Integer> seen) {
        if (a == b) {
            return 0;
        }
        int least = 99999;
        seen.add(a);
        for (int[] line : town.lines) {
            int other = line[0] == a ? line[1] : line[1] == a ? line[0] : -1;
            if (other >= 0 && !seen.contains(other)) {
                least = Math.min(least, line[2] + minutes(other, b, seen));
            }
        }
        seen.remove(a);
        return least;
    }

    private int stepsOf(int t, Set<Integer> lifts) {
        return lifts.contains(t) ? 0 : town.stations.get(t);
    }

    int travel(int a, int b, int what) {
        int n = town.stations.size();
        if (out(a, 0, n - 1) || out(b, 0, n - 1) || out(what, 0, 1)) {
            return BAD;
        }
        int minutes = minutes(a, b, new HashSet<>());
        if (minutes >= 99999) {
            return NONE;
        }
        return what == 0 ? minutes : a == b ? 0 : stepsOf(a, town.lifts) + stepsOf(b, town.lifts);
    }

    private int freeWith(Set<Integer> lifts) {
        int free = 0;
        for (int a = 0; a < town.stations.size(); a++) {
            for (int b = 0; b < a; b++) {
                if (stepsOf(a, lifts) + stepsOf(b, lifts) == 0 && minutes(a, b, new HashSet<>()) < 99999) {
                    free++;
                }
            }
        }
        return free;
    }

    int free() {
        return freeWith(town.lifts);
    }

    int lifts(int n, int what) {
        if (out(n, 1, 3) || out(what, 0, 1)) {
            return BAD;
        }
        int best = NONE, most = -1;
        sets:
        for (int bits = (1 << town.stations.size()) - 1; bits > 0; bits--) {
            Set<Integer> with = new HashSet<>(town.lifts);
            for (int t = 0; t < 7; t++) {
                if ((bits & 1 << t) != 0 && !with.add(t)) {
                    continue sets;
                }
            }
            if (with.size() == town.lifts.size() + n && freeWith(with) >= most) {
                best = bits;
                most = freeWith(with);
            }
        }
        return best == NONE || what == 0 ? best : most;
    }

    int missed() {
        int missed = NONE, fewest = 99999;
        for (int t = 6; t >= 0; t--) {
            if (town.lifts.contains(t)) {
                Set<Integer> without = new HashSet<>(town.lifts);
                without.remove(t);
                if (freeWith(without) <= fewest) {
                    missed = t;
                    fewest = freeWith(without);
                }
            }
        }
        return missed;
    }

    int tips(int what) {
        if (out(what, 0, 3)) {
            return BAD;
        }
        if (what == 0) {
            return 2 * town.b > town.p ? 1 : 0;
        }
        if (what == 1) {
            int most = 0;
            while (2 * (most + 1) <= town.p) {
                most++;
            }
            return most;
        }
        int had = town.b, most = NONE;
        for (int more = 0; had + more <= 40; more++) {
            town.b = had + more;
            if (best(2, what == 3, 0) == NONE) {
                break;
            }
            most = more;
        }
        town.b = had;
        return most;
    }

    // ---- changes, days

    int bags(int b) {
        if (out(b, 0, 40)) {
            return BAD;
        }
        int had = town.b;
        town.b = b;
        past.clear();
        return had;
    }

    int lift(int t, boolean there) {
        if (out(t, 0, town.stations.size() - 1)) {
            return BAD;
        }
        if (there) {
            town.lifts.add(t);
        } else {
            town.lifts.remove(t);
        }
        return town.lifts.size();
    }

    int day(int z, int h, boolean asked) {
        if (out(z, 0, 9999) || out(h, 0, 23)) {
            return BAD;
        }
        for (int k = 0; k < 300; k++) {
            long x = 7919L * z + 6151L * k + 1;
            if ((x * x) % 65521 % 1000 < chance(h, k, asked)) {
                return k;
            }
        }
        return NONE;
    }

    int year(int z, int n, int h, int m, boolean asked) {
        if (out(z, 0, 9999) || out(n, 1, 60) || out(h, 0, 23) || out(m, 1, 300)) {
            return BAD;
        }
        int days = 0;
        for (int i = 0; i < n; i++) {
            int k = day((z + i) % 10000, h, asked);
            if (k != NONE && k < m) {
                days++;
            }
        }
        return days;
    }

    int keep() {
        if (kept.size() == 2) {
            return FULL;
        }
        kept.add(new Kept(town.b, new HashSet<>(town.lifts), now.copy()));
        return kept.size();
    }

    int back() {
        if (kept.isEmpty()) {
            return NO;
        }
        Kept last = kept.remove(kept.size() - 1);
        town.b = last.bags();
        town.lifts.clear();
        town.lifts.addAll(last.lifts());
        now = last.stance();
        row.clear();
        past.clear();
        return kept.size();
    }

    int count(int what) {
        int[] all = {town.steps.size(), town.helpers.size(), town.stations.size(), town.lines.size(),
            town.lifts.size(), row.size(), past.size(), kept.size(), text.length()};
        return out(what, 0, 8) ? BAD : all[what];
    }
}
