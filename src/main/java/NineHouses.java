import java.util.Arrays;

/**
 * A ladder in nine houses: one ladder whose parts are kept in the houses of a parish, and the fires it is
 * carried to. The words in capitals are those of the document.
 */
public final class NineHouses {
    public static final int NONE = -1, UNKNOWN = -1000001, OUTSIDE = -1000002, NOT = -1000003, FULL = -1000004;

    private static final int MOST_HOUSES = 9, MOST_PARTS = 12, MOST_WAKES = 20, MOST_MOVED = 2;
    private static final int MOST_CRIED = 7, MOST_ROUNDS = 5040;
    private static final int QUARTERS = 4, IMAGES = 2, PART_SETS = 1 << MOST_PARTS;
    private static final int TEXT_ROOM = 600, PLAN_ROOM = 200, MOST_BYTES = 8;
    private static final int MOST_FAR = 500, IN_PLACE_OF_NONE = 500;
    private static final int MOST_MINUTE = 999, MOST_REACH = 9999, MOST_COINS = 999, MOST_COST = 99, COST_AT_FIRST = 10;
    private static final int FAULTS_FROM = -10;
    private static final long MILLION = 1000000L, BILLION = 1000000000L;

    private final Text text = new Text();
    private final Now now = new Now();
    private final Now image0 = new Now();
    private final Now image1 = new Now();
    private final Waking waking = new Waking();
    private final Raising raising = new Raising();
    /** A second ladder beside the first: the other FIRE of two, or the one with spares. */
    private final Raising beside = new Raising();
    private final Crier crier = new Crier();
    private final Moves moves = new Moves();
    private final int[] cost = new int[MOST_PARTS];
    private final int[] logged = new int[MOST_PARTS];
    /** In how many ways the first SLOTS, as many as a SET has PARTS, take just the PARTS of that SET. */
    private final int[] ways = new int[PART_SETS];
    /** The texts are read into the unused ones, so that a FAULT leaves all as it was. */
    private Parish parish = new Parish();
    private Parish unusedParish = new Parish();
    private Plan plan = new Plan();
    private Plan unusedPlan = new Plan();
    private int store;

    public NineHouses() {
        startAnew();
    }

    // ---- texts

    public int feed(int n, long bytes) {
        if (n < 1 || n > MOST_BYTES) return OUTSIDE;
        if (text.length + n > TEXT_ROOM) return FULL;
        text.append(n, bytes);
        return text.length;
    }

    public int parish() {
        text.begin();
        unusedParish.learn(text);
        text.length = 0;
        if (!text.isSound()) return FAULTS_FROM - text.fault;
        Parish old = parish;
        parish = unusedParish;
        unusedParish = old;
        startAnew();
        return parish.houses;
    }

    public int plan() {
        if (text.length > PLAN_ROOM) return NOT;
        text.begin();
        unusedPlan.learn(text, parish.houses);
        text.length = 0;
        if (!text.isSound()) return FAULTS_FROM - text.fault;
        Plan old = plan;
        plan = unusedPlan;
        unusedPlan = old;
        return plan.count;
    }

    public int fault() {
        return text.faultAt;
    }

    public int told(int what) {
        switch (what) {
            case 0: return parish.houses;
            case 1: return parish.parts;
            case 2: return plan.count;
            case 3: return text.length;
            case 4: return now.away;
            case 5: return store;
            case 6: return countLogged();
            default: return OUTSIDE;
        }
    }

    public int house(int h, int what) {
        if (noHouse(h)) return UNKNOWN;
        switch (what) {
            case 0: return parish.wake[h];
            case 1: return parish.key[h];
            case 2:
            case 3:
            case 4:
            case 5: return parish.odds[what - 2][h];
            case 6: return now.partsAt(h, parish.parts);
            default: return OUTSIDE;
        }
    }

    public int far(int a, int b) {
        if (noHouse(a) || noHouse(b)) return UNKNOWN;
        return parish.far[a][b];
    }

    public int part(int p, int what) {
        if (noPart(p)) return UNKNOWN;
        switch (what) {
            case 0: return now.keptAt[p];
            case 1: return parish.minutes[p];
            case 2: return parish.gain[p];
            case 3: return parish.behind[p];
            case 4: return cost[p];
            case 5: return now.fits[p];
            default: return OUTSIDE;
        }
    }

    // ---- fires

    public int away(int set) {
        if (beyond(set, parish.houses)) return UNKNOWN;
        int was = now.away;
        now.away = set;
        return was;
    }

    public int awake(int first, int h) {
        if (noHouse(first) || noHouse(h)) return UNKNOWN;
        wakeAll(first);
        return waking.awake[h];
    }

    public int comes(int fire, int first, int p) {
        if (noHouse(fire) || noHouse(first) || noPart(p)) return UNKNOWN;
        wakeAll(first);
        return waking.arrival(parish, now.keptAt[p], fire);
    }

    public int stands(int fire, int first) {
        if (noHouse(fire) || noHouse(first)) return UNKNOWN;
        return raiseAll(fire, first);
    }

    public int put(int fire, int first, int i) {
        if (noHouse(fire) || noHouse(first)) return UNKNOWN;
        if (raiseAll(fire, first) == NONE || i < 0 || i >= raising.count) return NONE;
        return raising.order[i];
    }

    public int waited(int fire, int first) {
        if (noHouse(fire) || noHouse(first)) return UNKNOWN;
        raiseAll(fire, first);
        return raising.waitedFor;
    }

    public int odds(int fire, int first, int quarter, int what) {
        if (noHouse(fire) || noHouse(first)) return UNKNOWN;
        if (quarter < 0 || quarter >= QUARTERS || what < 0 || what > 1) return OUTSIDE;
        long sum = 0;
        int worst = 0;
        for (int set = 0; set <= fullSet(parish.houses); set++) {
            long share = has(set, first) ? 0 : parish.shareOf(set, first, quarter);
            if (share > 0) {
                waking.run(parish, plan, first, set);
                raising.gather(parish, waking, now.keptAt, fire);
                int minute = counted(raising.run(parish, parish.allParts()));
                sum += share * minute;
                worst = Math.max(worst, minute);
            }
        }
        return what == 0 ? (int) (sum / MILLION) : worst;
    }

    public int night(int quarter) {
        if (quarter < 0 || quarter >= QUARTERS) return OUTSIDE;
        int set = 0;
        for (int h = 0; h < parish.houses; h++) {
            if (now.draw(100) < parish.odds[quarter][h]) set |= 1 << h;
        }
        now.away = set;
        return set;
    }

    public int crier(int fire, int first, int i) {
        if (noHouse(fire) || noHouse(first)) return UNKNOWN;
        if (!crier.sendOut(parish, now, first)) return NOT;
        crier.search(parish, now, waking, raising, fire);
        if (i == NONE) return crier.stands;
        if (i < 0 || i >= crier.plan.count) return NONE;
        return crier.best[i];
    }

    // ---- parts

    public int keepAt(int p, int h) {
        if (noPart(p) || noHouse(h)) return UNKNOWN;
        int was = now.keptAt[p];
        now.keptAt[p] = h;
        return was;
    }

    public int kept(int first, int t, int what) {
        if (noHouse(first)) return UNKNOWN;
        if (t < 0 || t > MOST_MINUTE || what < 0 || what > 2 * MOST_MOVED) return OUTSIDE;
        waking.run(parish, plan, first, 0);
        moves.find(parish, waking, now.keptAt, t);
        if (what == 0) return moves.count;
        int i = (what - 1) / 2;
        if (i >= moves.count) return NONE;
        return what % 2 == 1 ? moves.part[i] : moves.to[i];
    }

    public int reach(int set) {
        if (beyond(set, parish.parts)) return UNKNOWN;
        return parish.gainOf(parish.canBeIn(set));
    }

    public int needed(int r) {
        if (r < 0 || r > MOST_REACH) return OUTSIDE;
        int best = NONE;
        for (int set = 0; set <= parish.allParts(); set++) {
            boolean fewer = best == NONE || Integer.bitCount(set) < Integer.bitCount(best);
            if (fewer && parish.gainOf(parish.canBeIn(set)) >= r) best = set;
        }
        return best;
    }

    public int fit(int slot, int set) {
        if (noPart(slot) || beyond(set, parish.parts)) return UNKNOWN;
        int was = now.fits[slot];
        now.fits[slot] = set | 1 << slot;
        return was;
    }

    public int ladders(int set, int m) {
        if (beyond(set, parish.parts)) return UNKNOWN;
        if (m < 0 || m > parish.parts) return OUTSIDE;
        countWays(set);
        int sum = 0;
        for (int used = 0; used <= parish.allParts(); used++) {
            if (Integer.bitCount(used) == m) sum += ways[used];
        }
        return sum;
    }

    public int longest(int set) {
        if (beyond(set, parish.parts)) return UNKNOWN;
        countWays(set);
        int most = 0;
        for (int used = 0; used <= parish.allParts(); used++) {
            if (ways[used] > 0) most = Math.max(most, Integer.bitCount(used));
        }
        return most;
    }

    public int cost(int p, int c) {
        if (noPart(p)) return UNKNOWN;
        if (c < 0 || c > MOST_COST) return OUTSIDE;
        int was = cost[p];
        cost[p] = c;
        return was;
    }

    public int store(int h) {
        if (noHouse(h)) return UNKNOWN;
        int was = store;
        store = h;
        return was;
    }

    public int spares(int fire, int first, int c, int what) {
        if (noHouse(fire) || noHouse(first)) return UNKNOWN;
        if (c < 0 || c > MOST_COINS || what < 0 || what > 1) return OUTSIDE;
        wakeAll(first);
        raising.gather(parish, waking, now.keptAt, fire);
        int spareComes = waking.arrival(parish, store, fire);
        int useful = raising.laterThan(spareComes, parish.parts);
        int best = 0;
        int least = standsWith(0, spareComes);
        // A spare that is of no use costs nothing less and makes the SET greater: it is never of the best.
        for (int set = 1; set <= useful; set++) {
            if ((set & ~useful) == 0 && costOf(set) <= c) {
                int minute = standsWith(set, spareComes);
                if (minute < least || minute == least && costOf(set) < costOf(best)) {
                    best = set;
                    least = minute;
                }
            }
        }
        return what == 0 ? best : least;
    }

    public int two(int f, int g, int first, int r) {
        if (noHouse(f) || noHouse(g) || noHouse(first)) return UNKNOWN;
        if (r < 0 || r > MOST_REACH) return OUTSIDE;
        wakeAll(first);
        raising.gather(parish, waking, now.keptAt, f);
        raising.countNever(parish.parts);
        beside.gather(parish, waking, now.keptAt, g);
        beside.countNever(parish.parts);
        int all = parish.allParts();
        int least = NONE;
        for (int set = 0; set <= all; set++) {
            int inAtF = parish.canBeIn(set);
            int inAtG = parish.canBeIn(all & ~set);
            if (parish.gainOf(inAtF) >= r && parish.gainOf(inAtG) >= r) {
                int minute = raising.run(parish, inAtF);
                if (least == NONE || minute < least) {
                    minute = Math.max(minute, beside.run(parish, inAtG));
                    least = least == NONE ? minute : Math.min(least, minute);
                }
            }
        }
        return least;
    }

    // ---- logs, images

    public int log(int p, int minute) {
        if (noPart(p)) return UNKNOWN;
        if (minute < 0 || minute > MOST_MINUTE) return OUTSIDE;
        logged[p] = minute;
        return countLogged();
    }

    public int clear() {
        int had = countLogged();
        Arrays.fill(logged, NONE);
        return had;
    }

    public int late(int fire, int first, int p) {
        if (noHouse(fire) || noHouse(first) || noPart(p)) return UNKNOWN;
        wakeAll(first);
        return lateBy(p, waking.arrival(parish, now.keptAt[p], fire));
    }

    public int judge(int fire, int first, int what) {
        if (noHouse(fire) || noHouse(first)) return UNKNOWN;
        if (what < 0 || what > 1) return OUTSIDE;
        wakeAll(first);
        raising.gather(parish, waking, now.keptAt, fire);
        return what == 0 ? findLatest() : standsByLog();
    }

    public int seed(int v) {
        if (v < 0) return OUTSIDE;
        int was = now.seed;
        now.seed = v;
        return was;
    }

    public int keep(int i) {
        if (i < 0 || i >= IMAGES) return UNKNOWN;
        Now image = i == 0 ? image0 : image1;
        image.becomes(now);
        image.isThere = true;
        return 1;
    }

    public int goBack(int i) {
        if (i < 0 || i >= IMAGES) return UNKNOWN;
        Now image = i == 0 ? image0 : image1;
        if (!image.isThere) return NOT;
        now.becomes(image);
        return 1;
    }

    // ---- what the calls share

    /** All that a new parish begins with; THE SEED alone goes on. */
    private void startAnew() {
        plan.count = 0;
        now.begin(parish);
        image0.isThere = false;
        image1.isThere = false;
        Arrays.fill(cost, COST_AT_FIRST);
        Arrays.fill(logged, NONE);
        store = 0;
    }

    private boolean noHouse(int h) {
        return h < 0 || h >= parish.houses;
    }

    private boolean noPart(int p) {
        return p < 0 || p >= parish.parts;
    }

    private static boolean beyond(int set, int count) {
        return (set & ~fullSet(count)) != 0;
    }

    private static int fullSet(int count) {
        return (1 << count) - 1;
    }

    private static boolean has(int set, int k) {
        return (set >> k & 1) == 1;
    }

    private static int counted(int minute) {
        return minute == NONE ? IN_PLACE_OF_NONE : minute;
    }

    private static void swap(int[] row, int i, int k) {
        int old = row[i];
        row[i] = row[k];
        row[k] = old;
    }

    private void wakeAll(int first) {
        waking.run(parish, plan, first, now.away);
    }

    private int raiseAll(int fire, int first) {
        wakeAll(first);
        raising.gather(parish, waking, now.keptAt, fire);
        return raising.run(parish, parish.allParts());
    }

    private void countWays(int set) {
        Arrays.fill(ways, 0);
        ways[0] = 1;
        for (int used = 0; used <= parish.allParts(); used++) {
            int slot = Integer.bitCount(used);
            if (ways[used] > 0 && slot < parish.parts) {
                int free = now.fits[slot] & set & ~used;
                for (int p = 0; p < parish.parts; p++) {
                    if (has(free, p)) ways[used | 1 << p] += ways[used];
                }
            }
        }
    }

    private int costOf(int set) {
        int sum = 0;
        for (int p = 0; p < parish.parts; p++) {
            if (has(set, p)) sum += cost[p];
        }
        return sum;
    }

    private int standsWith(int spareSet, int spareComes) {
        for (int p = 0; p < parish.parts; p++) {
            beside.coming[p] = has(spareSet, p) ? spareComes : raising.coming[p];
        }
        return counted(beside.run(parish, parish.allParts()));
    }

    private int countLogged() {
        int count = 0;
        for (int p = 0; p < parish.parts; p++) {
            if (logged[p] != NONE) count++;
        }
        return count;
    }

    private int lateBy(int p, int comes) {
        if (logged[p] == NONE || comes == NONE) return 0;
        return Math.max(0, logged[p] - comes);
    }

    private int findLatest() {
        int latest = NONE;
        int most = 0;
        for (int p = 0; p < parish.parts; p++) {
            int by = lateBy(p, raising.coming[p]);
            if (by > most) {
                latest = p;
                most = by;
            }
        }
        return latest;
    }

    private int standsByLog() {
        for (int p = 0; p < parish.parts; p++) {
            if (logged[p] != NONE) raising.coming[p] = logged[p];
        }
        return raising.run(parish, parish.allParts());
    }

    /** THE TEXT, and the reading of it up to its first FAULT: behind that nothing is taken any more. */
    private static final class Text {
        final char[] signs = new char[TEXT_ROOM];
        int length;
        /** Where what was taken last begins. */
        int start;
        int fault;
        int faultAt = NONE;
        private int at;

        void append(int n, long bytes) {
            for (int i = n - 1; i >= 0 && length < TEXT_ROOM; i--) {
                signs[length] = (char) (bytes >>> 8 * i & 255);
                length++;
            }
        }

        void begin() {
            at = 0;
            start = 0;
            fault = 0;
            faultAt = NONE;
        }

        boolean isSound() {
            return fault == 0;
        }

        void blame(int number, int where) {
            if (isSound()) {
                fault = number;
                faultAt = where;
            }
        }

        /** What cannot stand where the reading is now. */
        void blameHere() {
            skipBlanks();
            blame(1, at);
        }

        boolean goesOn() {
            skipBlanks();
            return isSound() && at < length;
        }

        boolean takesWord(String word) {
            skipBlanks();
            int end = at;
            while (end < length && isLetter(signs[end])) end++;
            if (!isSound() || end - at != word.length()) return false;
            for (int i = 0; i < word.length(); i++) {
                if (signs[at + i] != word.charAt(i)) return false;
            }
            start = at;
            at = end;
            return true;
        }

        boolean takesSign(char sign) {
            skipBlanks();
            if (!isSound() || at >= length || signs[at] != sign) return false;
            start = at;
            at++;
            return true;
        }

        void endClause() {
            if (!takesSign(';')) blameHere();
        }

        /** A NUMBER; behind a FAULT the least one, which is not to be used. */
        int takeNumber(int least, int most) {
            if (!isSound()) return least;
            skipBlanks();
            start = at;
            int value = 0;
            while (at < length && isFigure(signs[at])) {
                // the value of more than three figures is not asked for, and must not run over
                if (at - start < 3) value = value * 10 + signs[at] - '0';
                at++;
            }
            int figures = at - start;
            if (figures == 0) {
                blame(1, start);
            } else if (figures > 3 || value < least || value > most) {
                blame(2, start);
            }
            return isSound() ? value : least;
        }

        private void skipBlanks() {
            while (at < length && signs[at] == ' ') at++;
        }

        private static boolean isLetter(char sign) {
            return sign >= 'a' && sign <= 'z';
        }

        private static boolean isFigure(char sign) {
            return sign >= '0' && sign <= '9';
        }
    }

    /** THE PARISH as its text told it. */
    private static final class Parish {
        int houses;
        int parts;
        final int[] wake = new int[MOST_HOUSES];
        final int[] key = new int[MOST_HOUSES];
        /** By quarter, then HOUSE. */
        final int[][] odds = new int[QUARTERS][MOST_HOUSES];
        final int[][] far = new int[MOST_HOUSES][MOST_HOUSES];
        final int[] home = new int[MOST_PARTS];
        final int[] minutes = new int[MOST_PARTS];
        final int[] gain = new int[MOST_PARTS];
        final int[] behind = new int[MOST_PARTS];

        /** Reads THE TEXT; with a FAULT what this then holds is not to be used. */
        void learn(Text text) {
            forget();
            for (int i = 0; i < TEXT_ROOM && text.goesOn(); i++) {
                if (text.takesWord("house")) {
                    learnHouse(text);
                } else if (text.takesWord("way")) {
                    learnWay(text);
                } else if (text.takesWord("part")) {
                    learnPart(text);
                } else {
                    text.blameHere();
                }
            }
            shortenWays();
        }

        int allParts() {
            return fullSet(parts);
        }

        /** Those of a SET of PARTS that have all they go in behind in the SET, and these too. */
        int canBeIn(int set) {
            int in = 0;
            for (int p = 0; p < parts; p++) {
                if (has(set, p) && (behind[p] & ~in) == 0) in |= 1 << p;
            }
            return in;
        }

        int gainOf(int set) {
            int sum = 0;
            for (int p = 0; p < parts; p++) {
                if (has(set, p)) sum += gain[p];
            }
            return sum;
        }

        /** How much of a BILLION falls to just this SET of HOUSES being AWAY. */
        long shareOf(int set, int first, int quarter) {
            long share = BILLION;
            for (int h = 0; h < houses; h++) {
                if (h != first) {
                    long gone = share * odds[quarter][h] / 100;
                    share = has(set, h) ? gone : share - gone;
                }
            }
            return share;
        }

        private void forget() {
            houses = 0;
            parts = 0;
            for (int a = 0; a < MOST_HOUSES; a++) {
                Arrays.fill(far[a], MOST_FAR);
                far[a][a] = 0;
            }
        }

        private void learnHouse(Text text) {
            if (houses >= MOST_HOUSES) {
                text.blame(3, text.start);
                return;
            }
            wake[houses] = text.takeNumber(0, 60);
            key[houses] = text.takeNumber(0, 60);
            for (int q = 0; q < QUARTERS; q++) {
                odds[q][houses] = text.takeNumber(0, 100);
            }
            text.endClause();
            houses++;
        }

        private void learnWay(Text text) {
            int a = text.takeNumber(0, houses - 1);
            int b = text.takeNumber(0, houses - 1);
            // as yet FAR has ways alone, all shorter than where there is none, and 0 from one to itself
            if (text.isSound() && far[a][b] < MOST_FAR) text.blame(4, text.start);
            int length = text.takeNumber(1, 99);
            text.endClause();
            if (text.isSound()) {
                far[a][b] = length;
                far[b][a] = length;
            }
        }

        private void learnPart(Text text) {
            if (parts >= MOST_PARTS) {
                text.blame(3, text.start);
                return;
            }
            home[parts] = text.takeNumber(0, houses - 1);
            minutes[parts] = text.takeNumber(0, 60);
            gain[parts] = text.takeNumber(0, 99);
            behind[parts] = text.takesWord("on") ? learnBehind(text) : 0;
            text.endClause();
            parts++;
        }

        private int learnBehind(Text text) {
            int set = 0;
            // a PART again is a FAULT, so these are one more than all PARTS told ahead at most
            for (int i = 0; i < MOST_PARTS && text.isSound(); i++) {
                int q = text.takeNumber(0, parts - 1);
                if (text.isSound() && has(set, q)) text.blame(4, text.start);
                set |= 1 << q;
                if (!text.takesSign(',')) break;
            }
            return set;
        }

        /** From ways to FAR: over each HOUSE in turn. */
        private void shortenWays() {
            for (int over = 0; over < houses; over++) {
                for (int a = 0; a < houses; a++) {
                    for (int b = 0; b < houses; b++) {
                        far[a][b] = Math.min(far[a][b], far[a][over] + far[over][b]);
                    }
                }
            }
        }
    }

    /** Who wakes whom: clause by clause. */
    private static final class Plan {
        int count;
        final int[] waker = new int[MOST_WAKES];
        final int[] woken = new int[MOST_WAKES];

        /** Reads THE TEXT; with a FAULT what this then holds is not to be used. */
        void learn(Text text, int houses) {
            count = 0;
            for (int i = 0; i < TEXT_ROOM && text.goesOn(); i++) {
                if (text.takesWord("wake")) {
                    learnWake(text, houses);
                } else {
                    text.blameHere();
                }
            }
        }

        private void learnWake(Text text, int houses) {
            if (count >= MOST_WAKES) {
                text.blame(3, text.start);
                return;
            }
            int a = text.takeNumber(0, houses - 1);
            int b = text.takeNumber(0, houses - 1);
            if (text.isSound() && (a == b || isWoken(b))) text.blame(4, text.start);
            text.endClause();
            waker[count] = a;
            woken[count] = b;
            count++;
        }

        private boolean isWoken(int b) {
            for (int i = 0; i < count; i++) {
                if (woken[i] == b) return true;
            }
            return false;
        }
    }

    /** What calls change and IMAGES keep. */
    private static final class Now {
        final int[] keptAt = new int[MOST_PARTS];
        final int[] fits = new int[MOST_PARTS];
        int away;
        int seed;
        /** Of an IMAGE: whether it was kept. */
        boolean isThere;

        void begin(Parish parish) {
            away = 0;
            for (int p = 0; p < MOST_PARTS; p++) {
                keptAt[p] = p < parish.parts ? parish.home[p] : 0;
                fits[p] = 1 << p;
            }
        }

        void becomes(Now other) {
            System.arraycopy(other.keptAt, 0, keptAt, 0, MOST_PARTS);
            System.arraycopy(other.fits, 0, fits, 0, MOST_PARTS);
            away = other.away;
            seed = other.seed;
        }

        int partsAt(int house, int parts) {
            int set = 0;
            for (int p = 0; p < parts; p++) {
                if (keptAt[p] == house) set |= 1 << p;
            }
            return set;
        }

        /** A DRAW of n, which is above 0. */
        int draw(int n) {
            seed = (int) (seed * 1103515245L + 12345L & 0x7fffffffL);
            return seed / 65536 % Math.max(n, 1);
        }
    }

    /** Who is awake when, and when and whence what is kept in a HOUSE sets out for the FIRE. */
    private static final class Waking {
        /** The minute; NONE: never. */
        final int[] awake = new int[MOST_HOUSES];
        private final int[] setsOut = new int[MOST_HOUSES];
        private final int[] whence = new int[MOST_HOUSES];
        private final int[] wakers = new int[MOST_HOUSES];
        private int count;

        void run(Parish parish, Plan plan, int first, int away) {
            Arrays.fill(awake, NONE);
            Arrays.fill(setsOut, NONE);
            count = 0;
            rouse(first, 0);
            // no HOUSE is told twice as woken, and FIRST is passed: each comes here once at most
            for (int i = 0; i < count && i < MOST_HOUSES; i++) {
                goRound(parish, plan, wakers[i], first, away);
            }
        }

        /** When PARTS kept in a HOUSE are at the FIRE. */
        int arrival(Parish parish, int house, int fire) {
            if (setsOut[house] == NONE) return NONE;
            return setsOut[house] + parish.far[whence[house]][fire];
        }

        private void rouse(int house, int minute) {
            if (count >= MOST_HOUSES) return;
            awake[house] = minute;
            setsOut[house] = minute;
            whence[house] = house;
            wakers[count] = house;
            count++;
        }

        private void goRound(Parish parish, Plan plan, int waker, int first, int away) {
            int at = waker;
            int minute = awake[waker];
            int taken = 0;
            for (int i = 0; i < plan.count; i++) {
                if (plan.waker[i] == waker) {
                    int b = plan.woken[i];
                    minute += parish.far[at][b];
                    at = b;
                    if (b != first && has(away, b)) {
                        minute += parish.key[b];
                        taken |= 1 << b;
                    } else if (b != first) {
                        rouse(b, minute + parish.wake[b]);
                    }
                }
            }
            for (int h = 0; h < parish.houses; h++) {
                if (has(taken, h)) {
                    setsOut[h] = minute;
                    whence[h] = at;
                }
            }
        }
    }

    /** The ladder at one FIRE: when its PARTS come, and how they are put in. */
    private static final class Raising {
        /** The minute; NONE: never. */
        final int[] coming = new int[MOST_PARTS];
        final int[] order = new int[MOST_PARTS];
        int count;
        int waitedFor = NONE;
        private final int[] ready = new int[MOST_PARTS];

        void gather(Parish parish, Waking waking, int[] keptAt, int fire) {
            for (int p = 0; p < parish.parts; p++) {
                coming[p] = waking.arrival(parish, keptAt[p], fire);
            }
        }

        void countNever(int parts) {
            for (int p = 0; p < parts; p++) {
                coming[p] = counted(coming[p]);
            }
        }

        /** The PARTS that are not here yet when a spare comes. */
        int laterThan(int spareComes, int parts) {
            int set = 0;
            for (int p = 0; p < parts; p++) {
                if (spareComes != NONE && (coming[p] == NONE || spareComes < coming[p])) set |= 1 << p;
            }
            return set;
        }

        /**
         * The minute at which a SET of PARTS is in; NONE: one of them never comes. All that a PART of the SET
         * goes in behind must be of the SET too.
         */
        int run(Parish parish, int set) {
            count = 0;
            waitedFor = NONE;
            for (int p = 0; p < parish.parts; p++) {
                if (has(set, p)) {
                    if (coming[p] == NONE) return NONE;
                    makeReady(parish, p);
                    queueUp(p);
                }
            }
            return putAll(parish);
        }

        private void makeReady(Parish parish, int p) {
            int minute = coming[p];
            for (int q = 0; q < p; q++) {
                if (has(parish.behind[p], q)) minute = Math.max(minute, ready[q] + parish.minutes[q]);
            }
            ready[p] = minute;
        }

        /** PARTS come here the lesser first, so of like ones the lesser stays ahead. */
        private void queueUp(int p) {
            if (count >= MOST_PARTS) return;
            int i = count;
            while (i > 0 && ready[order[i - 1]] > ready[p]) {
                order[i] = order[i - 1];
                i--;
            }
            order[i] = p;
            count++;
        }

        /** In this order all that a PART goes in behind is ahead of it: it waits for its own COMING alone. */
        private int putAll(Parish parish) {
            int minute = 0;
            for (int i = 0; i < count; i++) {
                int p = order[i];
                if (i == 0 || coming[p] > minute) {
                    waitedFor = p;
                    minute = coming[p];
                }
                minute += parish.minutes[p];
            }
            return minute;
        }
    }

    /** THE CRIER: all rounds are tried, the first ones first. */
    private static final class Crier {
        /** The round, as clauses of FIRST. */
        final Plan plan = new Plan();
        final int[] best = new int[MOST_CRIED];
        int stands;
        private int first;

        /** The first round of all; false: there are too many HOUSES for one. */
        boolean sendOut(Parish parish, Now now, int from) {
            first = from;
            plan.count = 0;
            for (int h = 0; h < parish.houses; h++) {
                if (h != first && now.partsAt(h, parish.parts) != 0) {
                    if (plan.count >= MOST_CRIED) return false;
                    plan.waker[plan.count] = first;
                    plan.woken[plan.count] = h;
                    plan.count++;
                }
            }
            return true;
        }

        void search(Parish parish, Now now, Waking waking, Raising raising, int fire) {
            stands = NONE;
            for (int i = 0; i < MOST_ROUNDS; i++) {
                waking.run(parish, plan, first, now.away);
                raising.gather(parish, waking, now.keptAt, fire);
                int minute = counted(raising.run(parish, parish.allParts()));
                if (stands == NONE || minute < stands) {
                    stands = minute;
                    System.arraycopy(plan.woken, 0, best, 0, plan.count);
                }
                if (!turnToNext()) break;
            }
        }

        /** The next round, HOUSE by HOUSE the lesser ahead; false: this was the last. */
        private boolean turnToNext() {
            int[] round = plan.woken;
            int end = plan.count - 1;
            int i = end - 1;
            while (i >= 0 && round[i] > round[i + 1]) i--;
            if (i < 0) return false;
            int k = end;
            while (k > i && round[k] < round[i]) k--;
            swap(round, i, k);
            for (int low = i + 1, high = end; low < high; low++, high--) swap(round, low, high);
            return true;
        }
    }

    /** KEPT: the fewest PARTS moved so that the ladder stands in time wherever there is a FIRE. */
    private static final class Moves {
        /** How many are moved; NONE: it cannot be done. */
        int count;
        final int[] part = new int[MOST_MOVED];
        final int[] to = new int[MOST_MOVED];
        private final int[] keptAt = new int[MOST_PARTS];
        /** By FIRE, then HOUSE: when PARTS kept there come. It does not hang on which PARTS these are. */
        private final int[][] arrivals = new int[MOST_HOUSES][MOST_HOUSES];
        /** All FIRES, ahead the one that was too far the last time: it most likely is again. */
        private final int[] fires = new int[MOST_HOUSES];
        private final Raising raising = new Raising();
        private int minutes;

        void find(Parish parish, Waking waking, int[] where, int t) {
            minutes = t;
            System.arraycopy(where, 0, keptAt, 0, MOST_PARTS);
            for (int fire = 0; fire < parish.houses; fire++) {
                fires[fire] = fire;
                for (int h = 0; h < parish.houses; h++) {
                    arrivals[fire][h] = waking.arrival(parish, h, fire);
                }
            }
            if (isInTime(parish)) {
                count = 0;
            } else if (moveOne(parish, 0, 0)) {
                count = 1;
            } else {
                count = moveTwo(parish) ? 2 : NONE;
            }
        }

        /** Moves one PART, none ahead of the one told, and holds it as the i-th. */
        private boolean moveOne(Parish parish, int i, int from) {
            for (int p = from; p < parish.parts; p++) {
                int home = keptAt[p];
                for (int h = 0; h < parish.houses; h++) {
                    keptAt[p] = h;
                    if (h != home && isInTime(parish)) {
                        hold(i, p, h);
                        return true;
                    }
                }
                keptAt[p] = home;
            }
            return false;
        }

        private boolean moveTwo(Parish parish) {
            for (int p = 0; p < parish.parts; p++) {
                int home = keptAt[p];
                for (int h = 0; h < parish.houses; h++) {
                    keptAt[p] = h;
                    if (h != home && moveOne(parish, 1, p + 1)) {
                        hold(0, p, h);
                        return true;
                    }
                }
                keptAt[p] = home;
            }
            return false;
        }

        private void hold(int i, int p, int h) {
            if (i < 0 || i >= MOST_MOVED) return;
            part[i] = p;
            to[i] = h;
        }

        private boolean isInTime(Parish parish) {
            for (int i = 0; i < parish.houses; i++) {
                for (int p = 0; p < parish.parts; p++) {
                    raising.coming[p] = arrivals[fires[i]][keptAt[p]];
                }
                int minute = raising.run(parish, parish.allParts());
                if (minute == NONE || minute > minutes) {
                    swap(fires, 0, i);
                    return false;
                }
            }
            return true;
        }
    }
}
