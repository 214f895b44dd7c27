import java.util.Arrays;

/** One with a pram at a stair, and the town that goes by. The document says what each call answers. */
public final class PramAndSteps {
    public static final int BAD = -1, NO = -2, FULL = -3, NONE = -4;

    private static final int TEXT_MOST = 200, ROW_MOST = 20, UNDO_MOST = 8, KEPT_MOST = 2;
    private static final int STEPS_MOST = 12, HELPERS_MOST = 4, STATIONS_MOST = 7, LINES_MOST = 10;
    private static final int HOURS = 24, PASSERS_MOST = 9, BAGS_MOST = 40, STRENGTHS = 100;
    private static final int LOOK_AHEAD = 300, DAYS_MOST = 60, SEEDS = 10000, LIFTS_AT_ONCE = 3;

    private static final int FORWARD = 0, BACKWARD = 1, BY_WHEELS = 2, MANNERS = 3, REST = 3;

    /** Places of the numbers of a town, in the order of pram(what). */
    private static final int WHEELS = 0, WEIGHT = 1, FOLDS = 2, BAGS = 3, CHILD = 4, SHOCK = 5, TENS = 6,
        ALL_STRENGTH = 7, REST_BEATS = 8, STOPS = 9, LOOKED = 10, RAMP = 11, VALUES = 12, LOAD = 12;

    /** Places of a stance, in the order of stands(what); what is kept has two more. */
    private static final int GONE = 0, DOWN = 1, STRENGTH = 2, BEATS = 3, BUMPS = 4, AWAKE = 5, STANCE = 6,
        KEPT_BAGS = 6, KEPT_LIFTS = 7, KEPT = 8;

    private static final int BY_BEATS = 0, BY_BUMPS = 1, BY_RESTS = 2, BY_GREATEST = 3, KINDS_OF_BEST = 4;

    /** Above every sum that can come up, and so far below the greatest int that two of it can be added. */
    private static final int NEVER = 1000000;

    private final Town town = new Town();
    private final Town draft = new Town();
    private final Reader reader = new Reader();
    private final Stair stair = new Stair(town);
    private final Ways ways = new Ways(town, stair);
    private final Sleep sleep = new Sleep(town, stair);
    private final Two two = new Two(town);
    private final Crowd crowd = new Crowd(town);
    private final Rails rails = new Rails(town);

    private final int[] now = new int[STANCE];
    private final int[] trial = new int[STANCE];
    private final int[] keeping = new int[KEPT];
    private final Pile past = new Pile(UNDO_MOST, STANCE);
    private final Pile kept = new Pile(KEPT_MOST, KEPT);
    private final int[] row = new int[ROW_MOST];
    private int told = 0;

    public PramAndSteps() {
        town.clear();
        town.addStep(15, 30);
        town.addStep(15, 30);
        town.addStep(20, 25);
        beginAnew(false);
    }

    // ---- towns

    public int write(int letter) {
        if (!isIn(letter, 32, 126)) {
            return BAD;
        }
        return reader.add((char) letter);
    }

    public int wipe() {
        return reader.empty();
    }

    public int fault() {
        return reader.readInto(draft);
    }

    public int lay() {
        if (reader.readInto(draft) != NONE || draft.steps < 1) {
            return NO;
        }
        reader.readInto(town);
        kept.clear();
        beginAnew(false);
        return town.steps;
    }

    public int step(int s, int what) {
        if (!isIn(s, 0, town.steps - 1) || !isIn(what, 0, 1)) {
            return BAD;
        }
        return what == 0 ? at(town.highs, s) : at(town.depths, s);
    }

    public int pram(int what) {
        if (!isIn(what, 0, LOAD)) {
            return BAD;
        }
        return what == LOAD ? town.load() : town.value(what);
    }

    public int helper(int h, int what) {
        if (!isIn(h, 0, town.helpers - 1) || !isIn(what, 0, 1)) {
            return BAD;
        }
        return what == 0 ? at(town.strengths, h) : at(town.latenesses, h);
    }

    public int passers(int h) {
        return isIn(h, 0, HOURS - 1) ? at(town.passing, h) : BAD;
    }

    public int station(int t, int what) {
        if (!isIn(t, 0, town.stations - 1) || !isIn(what, 0, 1)) {
            return BAD;
        }
        if (what == 0) {
            return at(town.climbs, t);
        }
        return Rails.hasLift(town.liftBits, t) ? 1 : 0;
    }

    // ---- the stair

    public int start(boolean down) {
        beginAnew(down);
        return town.steps;
    }

    public int force(int s, int manner, boolean down, int what) {
        if (!isIn(s, 0, town.steps - 1) || !isIn(manner, 0, MANNERS - 1) || !isIn(what, 0, 2)) {
            return BAD;
        }
        int needed = stair.forceOf(s, manner, down, town.load());
        if (!stair.canBe(s, manner, needed)) {
            return NO;
        }
        if (what == 0) {
            return needed;
        }
        return what == 1 ? stair.bumpOf(s, manner, down) : Stair.beatsOf(manner);
    }

    public int go(int manner) {
        if (!isIn(manner, 0, MANNERS - 1)) {
            return BAD;
        }
        return does(manner) ? at(now, GONE) : NO;
    }

    public int rest() {
        return does(REST) ? at(now, STRENGTH) : NO;
    }

    public int undo() {
        return past.pop(now) ? past.size : NO;
    }

    public int stands(int what) {
        return isIn(what, 0, STANCE - 1) ? at(now, what) : BAD;
    }

    public int tell(int what) {
        if (!isIn(what, 0, REST)) {
            return BAD;
        }
        if (told >= ROW_MOST) {
            return FULL;
        }
        put(row, told, what);
        told++;
        return told;
    }

    public int noRow() {
        int had = told;
        told = 0;
        return had;
    }

    public int judge() {
        copy(now, trial);
        for (int i = 0; i < told; i++) {
            if (!stair.moves(trial, at(row, i))) {
                return i;
            }
        }
        return NONE;
    }

    // ---- alone, two

    public int best(int kind, boolean down, int what) {
        if (!isIn(kind, 0, KINDS_OF_BEST - 1) || !isIn(what, 0, 1)) {
            return BAD;
        }
        int least = ways.least(kind, down);
        if (least >= NEVER) {
            return NONE;
        }
        return what == 0 ? least : ways.firstManner(kind, least);
    }

    public int asleep(boolean down) {
        int fewest = sleep.fewestBeats(down);
        return fewest >= NEVER ? NONE : fewest;
    }

    public int ends(int h, int what) {
        if (!isIn(h, 0, town.helpers - 1) || !isIn(what, 0, 1)) {
            return BAD;
        }
        int strain = two.leastStrain(h);
        if (strain > Two.STRAIN_MOST) {
            return NONE;
        }
        return what == 1 ? strain : two.endOf(h);
    }

    public int mate() {
        return two.leastStrained();
    }

    public long time(int h, int part) {
        if (!isIn(h, 0, town.helpers - 1) || !isIn(part, 0, 1)) {
            return BAD;
        }
        return two.chanceInTime(h, part);
    }

    // ---- passers

    public int some(int n, boolean asked) {
        return isIn(n, 0, PASSERS_MOST) ? crowd.chanceOf(n, asked) : BAD;
    }

    public int few() {
        return crowd.likeliestNumber();
    }

    public int within(int h, int m, boolean asked) {
        if (!isIn(h, 0, HOURS - 1) || !isIn(m, 0, LOOK_AHEAD)) {
            return BAD;
        }
        return crowd.chanceWithin(h, m, asked);
    }

    public int rush(boolean asked) {
        return crowd.likeliestHour(asked);
    }

    public int await(int h, int p, boolean asked) {
        if (!isIn(h, 0, HOURS - 1) || !isIn(p, 1, Crowd.SURE)) {
            return BAD;
        }
        return crowd.minutesUntil(h, p, asked);
    }

    public int out(int h, boolean down, int what) {
        if (!isIn(h, 0, HOURS - 1) || !isIn(what, 0, 1)) {
            return BAD;
        }
        int which = 0;
        int fewest = minutesAlone(down);
        if (town.value(RAMP) < fewest) {
            which = 1;
            fewest = town.value(RAMP);
        }
        int waiting = minutesByTwo(h);
        if (waiting < fewest) {
            which = 2;
            fewest = waiting;
        }
        return what == 0 ? which : fewest;
    }

    // ---- stations, bags

    public int travel(int a, int b, int what) {
        if (!isIn(a, 0, town.stations - 1) || !isIn(b, 0, town.stations - 1) || !isIn(what, 0, 1)) {
            return BAD;
        }
        rails.measure();
        int minutes = rails.minutesFrom(a, b);
        if (minutes >= NEVER) {
            return NONE;
        }
        return what == 0 ? minutes : rails.stepsFrom(a, b, town.liftBits);
    }

    public int free() {
        rails.measure();
        return rails.freePairs(town.liftBits);
    }

    public int lifts(int n, int what) {
        if (!isIn(n, 1, LIFTS_AT_ONCE) || !isIn(what, 0, 1)) {
            return BAD;
        }
        rails.measure();
        int set = rails.bestSet(n);
        if (set == NONE || what == 0) {
            return set;
        }
        return rails.freePairs(town.liftBits | set);
    }

    public int missed() {
        rails.measure();
        return rails.mostMissed();
    }

    public int tips(int what) {
        if (!isIn(what, 0, 3)) {
            return BAD;
        }
        if (what == 0) {
            return 2 * town.value(BAGS) > town.value(WEIGHT) ? 1 : 0;
        }
        if (what == 1) {
            return town.value(WEIGHT) / 2;
        }
        return roomForBags(what == 3);
    }

    // ---- changes, days

    public int bags(int b) {
        if (!isIn(b, 0, BAGS_MOST)) {
            return BAD;
        }
        int before = town.value(BAGS);
        put(town.values, BAGS, b);
        past.clear();
        return before;
    }

    public int lift(int t, boolean there) {
        if (!isIn(t, 0, town.stations - 1)) {
            return BAD;
        }
        int bit = 1 << t;
        town.liftBits = there ? town.liftBits | bit : town.liftBits & ~bit;
        return Integer.bitCount(town.liftBits);
    }

    public int day(int z, int h, boolean asked) {
        if (!isIn(z, 0, SEEDS - 1) || !isIn(h, 0, HOURS - 1)) {
            return BAD;
        }
        crowd.markHours(asked);
        return crowd.firstStop(z, h, LOOK_AHEAD);
    }

    public int year(int z, int n, int h, int m, boolean asked) {
        if (!isIn(z, 0, SEEDS - 1) || !isIn(n, 1, DAYS_MOST) || !isIn(h, 0, HOURS - 1) || !isIn(m, 1, LOOK_AHEAD)) {
            return BAD;
        }
        crowd.markHours(asked);
        int days = 0;
        for (int i = 0; i < n; i++) {
            if (crowd.firstStop((z + i) % SEEDS, h, m) != NONE) {
                days++;
            }
        }
        return days;
    }

    public int keep() {
        if (kept.size >= KEPT_MOST) {
            return FULL;
        }
        copy(now, keeping);
        put(keeping, KEPT_BAGS, town.value(BAGS));
        put(keeping, KEPT_LIFTS, town.liftBits);
        kept.push(keeping);
        return kept.size;
    }

    public int back() {
        if (!kept.pop(keeping)) {
            return NO;
        }
        copy(keeping, now);
        put(town.values, BAGS, at(keeping, KEPT_BAGS));
        town.liftBits = at(keeping, KEPT_LIFTS);
        forgetRowAndPast();
        return kept.size;
    }

    public int count(int what) {
        switch (what) {
            case 0: return town.steps;
            case 1: return town.helpers;
            case 2: return town.stations;
            case 3: return town.lines;
            case 4: return Integer.bitCount(town.liftBits);
            case 5: return told;
            case 6: return past.size;
            case 7: return kept.size;
            case 8: return reader.length;
            default: return BAD;
        }
    }

    // ---- what several calls share

    private void beginAnew(boolean down) {
        Arrays.fill(now, 0);
        put(now, DOWN, down ? 1 : 0);
        put(now, STRENGTH, town.value(ALL_STRENGTH));
        forgetRowAndPast();
    }

    private void forgetRowAndPast() {
        told = 0;
        past.clear();
    }

    /** A MANNER or a REST is done, and can be UNDONE from then on; if it can not be, nothing changes. */
    private boolean does(int what) {
        copy(now, trial);
        if (!stair.moves(trial, what)) {
            return false;
        }
        past.push(now);
        copy(trial, now);
        return true;
    }

    private int minutesAlone(boolean down) {
        int beats = ways.least(BY_BEATS, down);
        return beats >= NEVER ? NEVER : cutUp(beats, 12);
    }

    private int minutesByTwo(int h) {
        int waiting = crowd.minutesUntil(h, Crowd.SURE / 2, true);
        if (waiting == NONE || two.leastStrained() == NONE) {
            return NEVER;
        }
        return waiting + cutUp(town.steps, 4);
    }

    private int roomForBags(boolean down) {
        // more weight never makes a STEP easier, so the first that goes, from above, is the most
        for (int more = BAGS_MOST - town.value(BAGS); more >= 0; more--) {
            if (stair.canBeGone(down, town.load() + more)) {
                return more;
            }
        }
        return NONE;
    }

    private static boolean isIn(int number, int lowest, int highest) {
        return number >= lowest && number <= highest;
    }

    /** What stands at a place of a row; 0 beside it. */
    private static int at(int[] cells, int place) {
        return place >= 0 && place < cells.length ? cells[place] : 0;
    }

    /** Beside the row nothing is put. */
    private static void put(int[] cells, int place, int number) {
        if (place >= 0 && place < cells.length) {
            cells[place] = number;
        }
    }

    /** As many as both rows have. */
    private static void copy(int[] from, int[] to) {
        for (int i = 0; i < from.length && i < to.length; i++) {
            to[i] = from[i];
        }
    }

    private static int cutUp(int whole, int parts) {
        return parts <= 0 ? 0 : (whole + parts - 1) / parts;
    }

    /** What a TEXT tells, with BAGS and LIFTS as they are by now. */
    private static final class Town {
        private static final int[] WITHOUT = {20, 20, 30, 0, 10, 30, 20, 40, 20, 20, 60, 9};

        private final int[] highs = new int[STEPS_MOST];
        private final int[] depths = new int[STEPS_MOST];
        private int steps = 0;
        private final int[] values = new int[VALUES];
        private final int[] strengths = new int[HELPERS_MOST];
        private final int[] latenesses = new int[HELPERS_MOST];
        private int helpers = 0;
        private final int[] passing = new int[HOURS];
        private final int[] climbs = new int[STATIONS_MOST];
        private int stations = 0;
        private final int[] lineFrom = new int[LINES_MOST];
        private final int[] lineTo = new int[LINES_MOST];
        private final int[] lineMinutes = new int[LINES_MOST];
        private int lines = 0;
        private int liftBits = 0;

        void clear() {
            steps = 0;
            helpers = 0;
            stations = 0;
            lines = 0;
            liftBits = 0;
            Arrays.fill(passing, 0);
            copy(WITHOUT, values);
        }

        int value(int which) {
            return which >= 0 && which < values.length ? values[which] : 0;
        }

        int load() {
            return value(WEIGHT) + value(BAGS) + value(CHILD);
        }

        /** Takes an ITEM whose numbers are within their bounds; false if the town as told so far has no room for it. */
        boolean takes(char kind, int[] numbers) {
            int a = at(numbers, 0);
            int b = at(numbers, 1);
            switch (kind) {
                case 's': return addStep(a, b);
                case 'p': return setValues(WHEELS, numbers, 3);
                case 'b': return setValues(BAGS, numbers, 1);
                case 'k': return setValues(CHILD, numbers, 3);
                case 'a': return setValues(ALL_STRENGTH, numbers, 2);
                case 'h': return addHelper(a, b);
                case 'n': return setPassers(a, b);
                case 'q': return setValues(STOPS, numbers, 2);
                case 'm': return setValues(RAMP, numbers, 1);
                case 't': return addStation(a);
                case 'e': return addLine(a, b, at(numbers, 2));
                case 'i': return addLift(a);
                default: return false;
            }
        }

        boolean addStep(int high, int deep) {
            if (steps >= STEPS_MOST) {
                return false;
            }
            put(highs, steps, high);
            put(depths, steps, deep);
            steps++;
            return true;
        }

        private boolean setValues(int first, int[] numbers, int many) {
            for (int i = 0; i < many; i++) {
                put(values, first + i, at(numbers, i));
            }
            return true;
        }

        private boolean addHelper(int strength, int lateness) {
            if (helpers >= HELPERS_MOST) {
                return false;
            }
            put(strengths, helpers, strength);
            put(latenesses, helpers, lateness);
            helpers++;
            return true;
        }

        private boolean setPassers(int hour, int many) {
            put(passing, hour, many);
            return true;
        }

        private boolean addStation(int climb) {
            if (stations >= STATIONS_MOST) {
                return false;
            }
            put(climbs, stations, climb);
            stations++;
            return true;
        }

        private boolean addLine(int from, int to, int minutes) {
            if (lines >= LINES_MOST || from >= stations || to >= stations || from == to) {
                return false;
            }
            put(lineFrom, lines, from);
            put(lineTo, lines, to);
            put(lineMinutes, lines, minutes);
            lines++;
            return true;
        }

        private boolean addLift(int station) {
            if (station >= stations) {
                return false;
            }
            liftBits |= 1 << station;
            return true;
        }
    }

    /** THE TEXT, and how it is read. */
    private static final class Reader {
        private static final String KINDS = "spbkahnqmtei";
        private static final int NUMBERS_MOST = 3;
        /** How many numbers each of KINDS has, and three bounds for each, below and above. */
        private static final int[] NUMBERS = {2, 3, 1, 3, 2, 2, 2, 2, 1, 1, 3, 1};
        private static final int[] LOWEST = {
            1, 10, 0,  3, 1, 1,  0, 0, 0,  0, 0, 0,  1, 1, 0,  1, 0, 0,
            0, 0, 0,  0, 0, 0,  1, 0, 0,  0, 0, 0,  0, 0, 1,  0, 0, 0};
        private static final int[] HIGHEST = {
            30, 60, 0,  40, 60, 99,  40, 0, 0,  40, 99, 99,  99, 99, 0,  99, 10, 0,
            23, 9, 0,  99, 99, 0,  99, 0, 0,  60, 0, 0,  6, 6, 60,  6, 0, 0};

        private final char[] letters = new char[TEXT_MOST];
        private int length = 0;
        private final int[] numbers = new int[NUMBERS_MOST];

        int add(char letter) {
            if (length < 0 || length >= letters.length) {
                return FULL;
            }
            letters[length] = letter;
            length++;
            return length;
        }

        int empty() {
            int had = length;
            length = 0;
            return had;
        }

        /** Fills a town up to the first FAULT: its place, or NONE. */
        int readInto(Town to) {
            to.clear();
            int from = 0;
            for (int round = 0; round < TEXT_MOST && from < length; round++) {
                int behind = readItem(from, to);
                if (behind <= from) {
                    return from;
                }
                from = behind;
            }
            return NONE;
        }

        /** The place behind the ITEM that begins there, or BAD. */
        private int readItem(int from, Town to) {
            char letter = letterAt(from);
            int kind = KINDS.indexOf(letter);
            if (kind < 0) {
                return BAD;
            }
            int many = at(NUMBERS, kind);
            int place = from + 1;
            for (int i = 0; i < many; i++) {
                int figures = figuresAt(place);
                int bound = NUMBERS_MOST * kind + i;
                int number = numberAt(place, figures);
                if (figures == 0 || !isIn(number, at(LOWEST, bound), at(HIGHEST, bound))) {
                    return BAD;
                }
                put(numbers, i, number);
                place += figures;
                if (letterAt(place) != (i == many - 1 ? ';' : ',')) {
                    return BAD;
                }
                place++;
            }
            return to.takes(letter, numbers) ? place : BAD;
        }

        /** Behind THE TEXT is a sign that is in no ITEM. */
        private char letterAt(int place) {
            return place >= 0 && place < length && place < letters.length ? letters[place] : (char) 0;
        }

        private int figuresAt(int place) {
            if (!isFigure(letterAt(place))) {
                return 0;
            }
            return isFigure(letterAt(place + 1)) ? 2 : 1;
        }

        private int numberAt(int place, int figures) {
            int number = 0;
            for (int i = 0; i < figures; i++) {
                number = 10 * number + letterAt(place + i) - '0';
            }
            return number;
        }

        private static boolean isFigure(char letter) {
            return letter >= '0' && letter <= '9';
        }
    }

    /** Rows of one width, one upon the other; a full pile loses its lowest one for a new one. */
    private static final class Pile {
        private final int most;
        private final int width;
        private final int[] cells;
        private int size = 0;

        Pile(int most, int width) {
            this.most = most;
            this.width = width;
            this.cells = new int[Math.max(0, most * width)];
        }

        void clear() {
            size = 0;
        }

        void push(int[] from) {
            if (size >= most) {
                dropLowest();
            }
            for (int i = 0; i < width; i++) {
                put(cells, size * width + i, at(from, i));
            }
            size++;
        }

        private void dropLowest() {
            for (int i = width; i < size * width; i++) {
                put(cells, i - width, at(cells, i));
            }
            size--;
        }

        boolean pop(int[] to) {
            if (size <= 0) {
                return false;
            }
            size--;
            for (int i = 0; i < width; i++) {
                put(to, i, at(cells, size * width + i));
            }
            return true;
        }
    }

    /** How a STEP is gone, and what comes of it. */
    private static final class Stair {
        private static final int[] FORCE_PARTS = {1, 2, 4};
        private static final int[] MANNER_BEATS = {1, 2, 5};

        private final Town town;
        /** By MANNER, of the STEP that lookAt() saw last; FORCE is NEVER where it can not be. */
        private final int[] forces = new int[MANNERS];
        private final int[] bumps = new int[MANNERS];

        Stair(Town town) {
            this.town = town;
        }

        /** The STEP that comes next when so many are gone. */
        int stepBehind(int gone, boolean down) {
            return down ? town.steps - 1 - gone : gone;
        }

        void lookAt(int s, boolean down) {
            int load = town.load();
            for (int manner = 0; manner < MANNERS; manner++) {
                int force = forceOf(s, manner, down, load);
                put(forces, manner, canBe(s, manner, force) ? force : NEVER);
                put(bumps, manner, bumpOf(s, manner, down));
            }
        }

        static int beatsOf(int manner) {
            return at(MANNER_BEATS, manner);
        }

        int forceOf(int s, int manner, boolean down, int load) {
            int up = cutUp(load * at(town.highs, s), at(FORCE_PARTS, manner) * town.value(WHEELS));
            return down ? up + cutUp(up, 2) : up;
        }

        int bumpOf(int s, int manner, boolean down) {
            int high = at(town.highs, s);
            if (manner == BACKWARD) {
                return high + cutUp(high, 2);
            }
            return manner == FORWARD && !down ? high : 2 * high;
        }

        static int tiredBy(int force) {
            return cutUp(force, 8);
        }

        /** Whatever STRENGTH there is. */
        boolean canBe(int s, int manner, int force) {
            if (manner == BY_WHEELS) {
                return true;
            }
            int wheelsNeeded = (manner == FORWARD ? 2 : 1) * at(town.highs, s);
            return town.value(WHEELS) >= wheelsNeeded && force <= town.value(FOLDS);
        }

        /** Whether the whole stair can be gone: with a REST ahead of each STEP each one is gone with all STRENGTH. */
        boolean canBeGone(boolean down, int load) {
            for (int s = 0; s < town.steps; s++) {
                // by WHEELS needs the least FORCE and never folds the handle
                if (forceOf(s, BY_WHEELS, down, load) > town.value(ALL_STRENGTH)) {
                    return false;
                }
            }
            return true;
        }

        /** Does a MANNER or a REST in that stance; false, and nothing changed, if it can not be. */
        boolean moves(int[] stance, int what) {
            return what == REST ? takesRest(stance) : treads(stance, what);
        }

        private boolean takesRest(int[] stance) {
            int all = town.value(ALL_STRENGTH);
            if (at(stance, STRENGTH) >= all) {
                return false;
            }
            put(stance, STRENGTH, all);
            put(stance, BEATS, at(stance, BEATS) + town.value(REST_BEATS));
            return true;
        }

        private boolean treads(int[] stance, int manner) {
            int gone = at(stance, GONE);
            boolean down = at(stance, DOWN) == 1;
            int s = stepBehind(gone, down);
            int force = forceOf(s, manner, down, town.load());
            if (gone >= town.steps || !canBe(s, manner, force) || force > at(stance, STRENGTH)) {
                return false;
            }
            put(stance, GONE, gone + 1);
            put(stance, STRENGTH, at(stance, STRENGTH) - tiredBy(force));
            put(stance, BEATS, at(stance, BEATS) + beatsOf(manner));
            feels(stance, bumpOf(s, manner, down));
            return true;
        }

        private void feels(int[] stance, int bump) {
            int bumps = at(stance, BUMPS) + bump;
            put(stance, BUMPS, bumps);
            if (bump > town.value(SHOCK) || bumps > 10 * town.value(TENS)) {
                put(stance, AWAKE, 1);
            }
        }
    }

    /** BEST: from the last STEP back to the first, the least for each STRENGTH that there may be. */
    private static final class Ways {
        private final Town town;
        private final Stair stair;
        /** By STRENGTH: the least for all STEPS behind the one looked at, and from that one on. */
        private final int[] behind = new int[STRENGTHS];
        private final int[] here = new int[STRENGTHS];
        /** By MANNER: what the STEP looked at costs. */
        private final int[] costs = new int[MANNERS];

        Ways(Town town, Stair stair) {
            this.town = town;
            this.stair = stair;
        }

        /** NEVER, if there is no way. */
        int least(int kind, boolean down) {
            int all = town.value(ALL_STRENGTH);
            Arrays.fill(behind, 0);
            for (int gone = town.steps - 1; gone > 0; gone--) {
                weigh(kind, gone, down);
                int rested = joined(kind, costOfRest(kind), leastWith(all, kind));
                for (int strength = 0; strength <= all; strength++) {
                    put(here, strength, Math.min(rested, leastWith(strength, kind)));
                }
                copy(here, behind);
            }
            weigh(kind, 0, down);
            return leastWith(all, kind);
        }

        /** Only right behind least(), which looks at the first STEP last. */
        int firstManner(int kind, int least) {
            for (int manner = 0; manner < MANNERS; manner++) {
                if (leastIn(manner, town.value(ALL_STRENGTH), kind) == least) {
                    return manner;
                }
            }
            return NONE;
        }

        /** From the STEP looked at to the last one, without a REST ahead of it. */
        private int leastWith(int strength, int kind) {
            int least = NEVER;
            for (int manner = 0; manner < MANNERS; manner++) {
                least = Math.min(least, leastIn(manner, strength, kind));
            }
            return least;
        }

        private int leastIn(int manner, int strength, int kind) {
            int force = at(stair.forces, manner);
            if (force > strength) {
                return NEVER;
            }
            return joined(kind, at(costs, manner), at(behind, strength - Stair.tiredBy(force)));
        }

        private void weigh(int kind, int gone, boolean down) {
            stair.lookAt(stair.stepBehind(gone, down), down);
            for (int manner = 0; manner < MANNERS; manner++) {
                put(costs, manner, costOf(kind, manner));
            }
        }

        private int costOf(int kind, int manner) {
            switch (kind) {
                case BY_BEATS: return Stair.beatsOf(manner);
                case BY_BUMPS:
                case BY_GREATEST: return at(stair.bumps, manner);
                default: return 0;
            }
        }

        private int costOfRest(int kind) {
            switch (kind) {
                case BY_BEATS: return town.value(REST_BEATS);
                case BY_RESTS: return 1;
                default: return 0;
            }
        }

        private static int joined(int kind, int one, int other) {
            int both = kind == BY_GREATEST ? Math.max(one, other) : one + other;
            return Math.min(both, NEVER);
        }
    }

    /** ASLEEP: from the first STEP on, the fewest beats for each sum of BUMPS and each STRENGTH. */
    private static final class Sleep {
        /** The MANNERS of a STEP differ by 20 in BUMP at most (FORWARD needs WHEELS of 2 times H, 40 at most). */
        private static final int SPREAD_MOST = 20 * STEPS_MOST;

        private final Town town;
        private final Stair stair;
        /** A cell for each sum of BUMPS, counted from the least there can be, and each STRENGTH. */
        private final int[] beats = new int[(SPREAD_MOST + 1) * STRENGTHS];

        Sleep(Town town, Stair stair) {
            this.town = town;
            this.stair = stair;
        }

        /** NEVER, if he wakes on every way. */
        int fewestBeats(boolean down) {
            Arrays.fill(beats, NEVER);
            put(beats, town.value(ALL_STRENGTH), 0);
            int leastSum = 0;
            int spread = 0;
            for (int gone = 0; gone < town.steps; gone++) {
                stair.lookAt(stair.stepBehind(gone, down), down);
                int gentlest = gentlestBump();
                if (gentlest >= NEVER) {
                    return NEVER;
                }
                leastSum += gentlest;
                int room = Math.min(10 * town.value(TENS) - leastSum, SPREAD_MOST);
                takeStep(spread, gentlest, room, gone > 0);
                spread = Math.min(room, spread + hardestBump() - gentlest);
            }
            return fewestUpTo(spread);
        }

        /** Whether the STEP looked at can be gone in that MANNER without a BUMP that wakes him by itself. */
        private boolean isQuiet(int manner) {
            return at(stair.forces, manner) < NEVER && at(stair.bumps, manner) <= town.value(SHOCK);
        }

        private int gentlestBump() {
            int gentlest = NEVER;
            for (int manner = 0; manner < MANNERS; manner++) {
                if (isQuiet(manner)) {
                    gentlest = Math.min(gentlest, at(stair.bumps, manner));
                }
            }
            return gentlest;
        }

        private int hardestBump() {
            int hardest = 0;
            for (int manner = 0; manner < MANNERS; manner++) {
                if (isQuiet(manner)) {
                    hardest = Math.max(hardest, at(stair.bumps, manner));
                }
            }
            return hardest;
        }

        /**
         * One table is enough: a STEP leads to a sum that is no less and to less STRENGTH, so with sums from
         * above and STRENGTHS from below each cell is read before another one is carried into it.
         */
        private void takeStep(int spread, int gentlest, int room, boolean mayRest) {
            int all = town.value(ALL_STRENGTH);
            for (int sum = spread; sum >= 0; sum--) {
                int fewest = fewestAt(sum);
                if (fewest >= NEVER) {
                    continue;
                }
                if (mayRest) {
                    // behind a STEP nobody has all his STRENGTH, so that cell is still free
                    put(beats, sum * STRENGTHS + all, fewest + town.value(REST_BEATS));
                }
                for (int strength = 0; strength <= all; strength++) {
                    carry(sum, strength, gentlest, room);
                }
            }
        }

        private int fewestAt(int sum) {
            int fewest = NEVER;
            for (int strength = 0; strength < STRENGTHS; strength++) {
                fewest = Math.min(fewest, at(beats, sum * STRENGTHS + strength));
            }
            return fewest;
        }

        private int fewestUpTo(int spread) {
            int fewest = NEVER;
            for (int sum = 0; sum <= spread; sum++) {
                fewest = Math.min(fewest, fewestAt(sum));
            }
            return fewest;
        }

        private void carry(int sum, int strength, int gentlest, int room) {
            int from = sum * STRENGTHS + strength;
            int sofar = at(beats, from);
            if (sofar >= NEVER) {
                return;
            }
            put(beats, from, NEVER);
            for (int manner = 0; manner < MANNERS; manner++) {
                int force = at(stair.forces, manner);
                int next = sum + at(stair.bumps, manner) - gentlest;
                if (force <= strength && next <= room && isQuiet(manner)) {
                    int to = next * STRENGTHS + strength - Stair.tiredBy(force);
                    put(beats, to, Math.min(at(beats, to), sofar + Stair.beatsOf(manner)));
                }
            }
        }
    }

    /** ONE and a HELPER. */
    private static final class Two {
        private static final int STRAIN_MOST = 100;

        private final Town town;

        Two(Town town) {
            this.town = town;
        }

        /** 0: he is better below; 1: above. */
        int endOf(int h) {
            return strainWith(h, true) <= strainWith(h, false) ? 0 : 1;
        }

        int leastStrain(int h) {
            return Math.min(strainWith(h, true), strainWith(h, false));
        }

        int leastStrained() {
            int which = NONE;
            int least = STRAIN_MOST + 1;
            for (int h = 0; h < town.helpers; h++) {
                int strain = leastStrain(h);
                if (strain < least) {
                    which = h;
                    least = strain;
                }
            }
            return which;
        }

        /** The greatest STRAIN of both on all STEPS. */
        private int strainWith(int h, boolean helperBelow) {
            int his = at(town.strengths, h);
            int own = town.value(ALL_STRENGTH);
            int load = town.load();
            int greatest = 0;
            for (int s = 0; s < town.steps; s++) {
                int below = borneBelow(s, load);
                int above = load - below;
                int lower = cutUp(100 * below, helperBelow ? his : own);
                int upper = cutUp(100 * above, helperBelow ? own : his);
                greatest = Math.max(greatest, Math.max(lower, upper));
            }
            return greatest;
        }

        private int borneBelow(int s, int load) {
            int deep = at(town.depths, s);
            return Math.min(load, cutUp(load * (deep + at(town.highs, s)), 2 * deep));
        }

        /** Above (part 0) or below (1): of ten by ten in lowest terms, as often as there are STEPS. */
        long chanceInTime(int h, int part) {
            int inTime = 10 - at(town.latenesses, h);
            int common = commonOf(inTime, 10);
            int base = (part == 0 ? inTime : 10) / Math.max(1, common);
            long product = 1;
            for (int s = 0; s < town.steps; s++) {
                product *= base;
            }
            return product;
        }

        /** The greatest that parts both; the second is 10 at most. */
        private static int commonOf(int one, int other) {
            int common = 1;
            for (int i = 2; i <= 10; i++) {
                if (one % i == 0 && other % i == 0) {
                    common = i;
                }
            }
            return common;
        }
    }

    /** Chances, of a thousand, that a PASSER stops. */
    private static final class Crowd {
        private static final int SURE = 1000;
        private static final int MINUTES_OF_HOUR = 60;

        private final Town town;
        /** The chance of a minute of each HOUR, as markHours() told it last. */
        private final int[] chances = new int[HOURS];

        Crowd(Town town) {
            this.town = town;
        }

        int chanceOf(int n, boolean asked) {
            if (!asked || n <= 0) {
                return chanceUnasked(n);
            }
            int othersNot = SURE - chanceUnasked(n - 1);
            return SURE - (SURE - 10 * town.value(LOOKED)) * othersNot / SURE;
        }

        private int chanceUnasked(int n) {
            if (n <= 0) {
                return 0;
            }
            int each = 10 * town.value(STOPS) / n;
            int nobody = SURE;
            for (int i = 0; i < n; i++) {
                nobody = nobody * (SURE - each) / SURE;
            }
            return SURE - nobody;
        }

        int likeliestNumber() {
            int which = 1;
            for (int n = 2; n <= PASSERS_MOST; n++) {
                if (chanceUnasked(n) > chanceUnasked(which)) {
                    which = n;
                }
            }
            return which;
        }

        void markHours(boolean asked) {
            for (int hour = 0; hour < HOURS; hour++) {
                put(chances, hour, chanceOf(at(town.passing, hour), asked));
            }
        }

        private int chanceAt(int h, int minute) {
            return at(chances, (h + minute / MINUTES_OF_HOUR) % HOURS);
        }

        int likeliestHour(boolean asked) {
            markHours(asked);
            int which = 0;
            for (int hour = 1; hour < HOURS; hour++) {
                if (at(chances, hour) > at(chances, which)) {
                    which = hour;
                }
            }
            return which;
        }

        int chanceWithin(int h, int m, boolean asked) {
            markHours(asked);
            int nobody = SURE;
            for (int minute = 0; minute < m; minute++) {
                nobody = nobody * (SURE - chanceAt(h, minute)) / SURE;
            }
            return SURE - nobody;
        }

        /** WAIT, or NONE. */
        int minutesUntil(int h, int p, boolean asked) {
            markHours(asked);
            int nobody = SURE;
            for (int minute = 0; minute < LOOK_AHEAD; minute++) {
                nobody = nobody * (SURE - chanceAt(h, minute)) / SURE;
                if (SURE - nobody >= p) {
                    return minute + 1;
                }
            }
            return NONE;
        }

        /** The first of so many minutes of a DAY in which one stops, or NONE; only behind markHours(). */
        int firstStop(int z, int h, int minutes) {
            for (int k = 0; k < minutes; k++) {
                if (draw(z, k) < chanceAt(h, k)) {
                    return k;
                }
            }
            return NONE;
        }

        private static int draw(int z, int k) {
            long x = 7919L * z + 6151L * k + 1;
            return (int) (x * x % 65521 % 1000);
        }
    }

    /** STATIONS, LINES and LIFTS. */
    private static final class Rails {
        private final Town town;
        /** The fewest minutes between every two STATIONS, as measure() found them last. */
        private final int[] minutes = new int[STATIONS_MOST * STATIONS_MOST];

        Rails(Town town) {
            this.town = town;
        }

        static boolean hasLift(int liftBits, int t) {
            return (liftBits >> t & 1) == 1;
        }

        int minutesFrom(int a, int b) {
            return at(minutes, a * STATIONS_MOST + b);
        }

        void measure() {
            Arrays.fill(minutes, NEVER);
            for (int t = 0; t < town.stations; t++) {
                shorten(t, t, 0);
            }
            for (int i = 0; i < town.lines; i++) {
                shorten(at(town.lineFrom, i), at(town.lineTo, i), at(town.lineMinutes, i));
            }
            for (int over = 0; over < town.stations; over++) {
                for (int a = 0; a < town.stations; a++) {
                    for (int b = 0; b < town.stations; b++) {
                        shorten(a, b, minutesFrom(a, over) + minutesFrom(over, b));
                    }
                }
            }
        }

        private void shorten(int a, int b, int by) {
            if (by < minutesFrom(a, b)) {
                put(minutes, a * STATIONS_MOST + b, by);
                put(minutes, b * STATIONS_MOST + a, by);
            }
        }

        int stepsFrom(int a, int b, int liftBits) {
            return a == b ? 0 : stepsAt(a, liftBits) + stepsAt(b, liftBits);
        }

        private int stepsAt(int t, int liftBits) {
            return hasLift(liftBits, t) ? 0 : at(town.climbs, t);
        }

        int freePairs(int liftBits) {
            int pairs = 0;
            for (int a = 0; a < town.stations; a++) {
                for (int b = a + 1; b < town.stations; b++) {
                    if (minutesFrom(a, b) < NEVER && stepsFrom(a, b, liftBits) == 0) {
                        pairs++;
                    }
                }
            }
            return pairs;
        }

        /** PUT: the set as bits, or NONE. */
        int bestSet(int n) {
            int best = NONE;
            int most = -1;
            for (int set = 1; set < 1 << town.stations; set++) {
                if (Integer.bitCount(set) == n && (set & town.liftBits) == 0) {
                    int pairs = freePairs(town.liftBits | set);
                    if (pairs > most) {
                        best = set;
                        most = pairs;
                    }
                }
            }
            return best;
        }

        int mostMissed() {
            int which = NONE;
            int fewest = NEVER;
            for (int t = 0; t < town.stations; t++) {
                if (hasLift(town.liftBits, t)) {
                    int pairs = freePairs(town.liftBits & ~(1 << t));
                    if (pairs < fewest) {
                        which = t;
                        fewest = pairs;
                    }
                }
            }
            return which;
        }
    }
}
