import java.util.ArrayList;
import java.util.Arrays;
import java.util.Collections;
import java.util.Comparator;
import java.util.HashMap;
import java.util.List;
import java.util.Map;
import java.util.Random;
import java.util.regex.Matcher;
import java.util.regex.Pattern;

/** Long random runs of calls beside a second, plainer writing of the document that shares no code with the class. */
public final class NineHousesModel {
    private static final int NONE = -1, UNKNOWN = -1000001, OUTSIDE = -1000002, NOT = -1000003, FULL = -1000004;

    record House(int wake, int key, int[] odds) { }

    record Part(int home, int minutes, int gain, List<Integer> behind) { }

    record Wake(int a, int b) { }

    record Token(String text, int at) {
        boolean isWord() { return Character.isLowerCase(text.charAt(0)); }
        boolean isNumber() { return text.charAt(0) >= '0' && text.charAt(0) <= '9'; }
    }

    static final class Fault extends RuntimeException {
        private static final long serialVersionUID = 1L;
        final int number, at;
        Fault(int number, int at) { this.number = number; this.at = at; }
    }

    /** Tokens in a row, asked for by what may come next. */
    static final class Tokens {
        final List<Token> row = new ArrayList<>();
        final int length;
        int next = 0;
        int lastAt = 0;

        Tokens(String text) {
            length = text.length();
            Matcher m = Pattern.compile("(?s)[a-z]+|[0-9]+|[^ ]").matcher(text);
            while (m.find()) row.add(new Token(m.group(), m.start()));
        }
        boolean ended() { return next == row.size(); }
        Fault cannotStand() { return new Fault(1, ended() ? length : row.get(next).at); }
        boolean sees(String text) { return !ended() && row.get(next).text.equals(text); }
        void take(String text) {
            if (!sees(text)) throw cannotStand();
            lastAt = row.get(next++).at;
        }
        int number(int least, int most) {
            if (ended() || !row.get(next).isNumber()) throw cannotStand();
            Token t = row.get(next++);
            lastAt = t.at;
            if (t.text.length() > 3 || Integer.parseInt(t.text) < least || Integer.parseInt(t.text) > most) {
                throw new Fault(2, t.at);
            }
            return Integer.parseInt(t.text);
        }
    }

    /** The document's object. */
    static final class Model {
        StringBuilder text = new StringBuilder();
        List<House> houses = new ArrayList<>();
        List<Part> parts = new ArrayList<>();
        int[][] way = new int[9][9];
        List<Wake> plan = new ArrayList<>();
        int fault = NONE, away = 0, store = 0;
        long seed = 0;
        int[] keptAt = new int[12], fits = new int[12], cost = new int[12];
        Map<Integer, Integer> log = new HashMap<>();
        Object[][] images = new Object[2][];

        int feed(int n, long bytes) {
            if (n < 1 || n > 8) return OUTSIDE;
            if (text.length() + n > 600) return FULL;
            for (int i = 0; i < n; i++) text.append((char) ((bytes >>> (8 * (n - 1 - i))) & 0xff));
            return text.length();
        }

        int parish() {
            String told = text.toString();
            text.setLength(0);
            List<House> hs = new ArrayList<>();
            List<Part> ps = new ArrayList<>();
            int[][] ws = new int[9][9];
            try {
                Tokens t = new Tokens(told);
                while (!t.ended()) {
                    if (t.sees("house")) readHouse(t, hs);
                    else if (t.sees("way")) readWay(t, hs, ws);
                    else if (t.sees("part")) readPart(t, hs, ps);
                    else throw t.cannotStand();
                    t.take(";");
                }
            } catch (Fault f) {
                fault = f.at;
                return -10 - f.number;
            }
            fault = NONE;
            houses = hs;
            parts = ps;
            way = ws;
            plan = new ArrayList<>();
            away = 0;
            store = 0;
            for (int p = 0; p < ps.size(); p++) {
                keptAt[p] = ps.get(p).home;
                fits[p] = 1 << p;
                cost[p] = 10;
            }
            log.clear();
            images = new Object[2][];
            return hs.size();
        }

        static void readHouse(Tokens t, List<House> hs) {
            t.take("house");
            if (hs.size() == 9) throw new Fault(3, t.lastAt);
            int w = t.number(0, 60), k = t.number(0, 60);
            hs.add(new House(w, k, new int[] {t.number(0, 100), t.number(0, 100), t.number(0, 100), t.number(0, 100)}));
        }

        static void readWay(Tokens t, List<House> hs, int[][] ws) {
            t.take("way");
            int a = t.number(0, hs.size() - 1), b = t.number(0, hs.size() - 1);
            if (a == b || ws[a][b] != 0) throw new Fault(4, t.lastAt);
            ws[a][b] = ws[b][a] = t.number(1, 99);
        }

        static void readPart(Tokens t, List<House> hs, List<Part> ps) {
            t.take("part");
            if (ps.size() == 12) throw new Fault(3, t.lastAt);
            int h = t.number(0, hs.size() - 1), m = t.number(0, 60), g = t.number(0, 99);
            List<Integer> behind = new ArrayList<>();
            if (t.sees("on")) {
                do {
                    t.next++;
                    int q = t.number(0, ps.size() - 1);
                    if (behind.contains(q)) throw new Fault(4, t.lastAt);
                    behind.add(q);
                } while (t.sees(","));
            }
            ps.add(new Part(h, m, g, behind));
        }

        int plan() {
            if (text.length() > 200) return NOT;
            String told = text.toString();
            text.setLength(0);
            List<Wake> ws = new ArrayList<>();
            try {
                Tokens t = new Tokens(told);
                while (!t.ended()) {
                    t.take("wake");
                    if (ws.size() == 20) throw new Fault(3, t.lastAt);
                    int a = t.number(0, houses.size() - 1), b = t.number(0, houses.size() - 1);
                    if (a == b || ws.stream().anyMatch(w -> w.b == b)) throw new Fault(4, t.lastAt);
                    ws.add(new Wake(a, b));
                    t.take(";");
                }
            } catch (Fault f) {
                fault = f.at;
                return -10 - f.number;
            }
            fault = NONE;
            plan = ws;
            return ws.size();
        }

        int told(int what) {
            int[] all = {houses.size(), parts.size(), plan.size(), text.length(), away, store, log.size()};
            return what < 0 || what > 6 ? OUTSIDE : all[what];
        }

        boolean noHouse(int... hs) { return Arrays.stream(hs).anyMatch(h -> h < 0 || h >= houses.size()); }
        boolean noPart(int p) { return p < 0 || p >= parts.size(); }
        boolean strange(int set, int count) {
            for (int k = count; k < 32; k++) if ((set >>> k & 1) == 1) return true;
            return false;
        }

        int house(int h, int what) {
            if (noHouse(h)) return UNKNOWN;
            if (what < 0 || what > 6) return OUTSIDE;
            House it = houses.get(h);
            if (what == 0) return it.wake;
            if (what == 1) return it.key;
            if (what < 6) return it.odds[what - 2];
            int set = 0;
            for (int p = 0; p < parts.size(); p++) if (keptAt[p] == h) set += 1 << p;
            return set;
        }

        /** Shortest ways by going on from the nearest HOUSE that is not done. */
        int far(int a, int b) {
            if (noHouse(a, b)) return UNKNOWN;
            int[] best = new int[9];
            Arrays.fill(best, 100000);
            best[a] = 0;
            boolean[] done = new boolean[9];
            for (int n = 0; n < houses.size(); n++) {
                int near = NONE;
                for (int h = 0; h < houses.size(); h++) if (!done[h] && (near < 0 || best[h] < best[near])) near = h;
                done[near] = true;
                for (int h = 0; h < houses.size(); h++) {
                    if (way[near][h] > 0) best[h] = Math.min(best[h], best[near] + way[near][h]);
                }
            }
            return Math.min(500, best[b]);
        }

        int part(int p, int what) {
            if (noPart(p)) return UNKNOWN;
            if (what < 0 || what > 5) return OUTSIDE;
            Part it = parts.get(p);
            int behind = 0;
            for (int q : it.behind) behind += 1 << q;
            return new int[] {keptAt[p], it.minutes, it.gain, behind, cost[p], fits[p]}[what];
        }

        int away(int set) {
            if (strange(set, houses.size())) return UNKNOWN;
            int was = away;
            away = set;
            return was;
        }

        static boolean in(int set, int k) { return (set & (1 << k)) != 0; }

        /** From the HOUSE back to who wakes it; a ring of wakers is longer than all HOUSES. */
        int awakeBy(List<Wake> by, int first, int gone, int h, int depth) {
            if (h == first) return 0;
            if (in(gone, h) || depth > 10) return NONE;
            for (Wake w : by) {
                if (w.b == h) {
                    int[] met = walk(by, first, gone, w.a, h, depth);
                    return met == null ? NONE : met[1] + houses.get(h).wake;
                }
            }
            return NONE;
        }

        /** {where, when} a waker is when it comes to a HOUSE (NONE: with its round done); null: never awake. */
        int[] walk(List<Wake> by, int first, int gone, int waker, int until, int depth) {
            int at = waker, minute = awakeBy(by, first, gone, waker, depth + 1);
            if (minute == NONE) return null;
            for (Wake w : by) {
                if (w.a != waker) continue;
                minute += far(at, w.b);
                at = w.b;
                if (at == until) return new int[] {at, minute};
                if (at != first && in(gone, at)) minute += houses.get(at).key;
            }
            return new int[] {at, minute};
        }

        int comesFrom(List<Wake> by, int fire, int first, int gone, int h) {
            int awake = awakeBy(by, first, gone, h, 0);
            if (awake != NONE) return awake + far(h, fire);
            if (!in(gone, h)) return NONE;
            for (Wake w : by) {
                if (w.b == h) {
                    int[] end = walk(by, first, gone, w.a, NONE, 0);
                    return end == null ? NONE : end[1] + far(end[0], fire);
                }
            }
            return NONE;
        }

        int[] comings(List<Wake> by, int fire, int first, int gone, int[] where) {
            int[] from = new int[9], all = new int[parts.size()];
            for (int h = 0; h < houses.size(); h++) from[h] = comesFrom(by, fire, first, gone, h);
            for (int p = 0; p < all.length; p++) all[p] = from[where[p]];
            return all;
        }

        int readyOf(int p, int[] coming) {
            int minute = coming[p];
            for (int q : parts.get(p).behind) minute = Math.max(minute, readyOf(q, coming) + parts.get(q).minutes);
            return minute;
        }

        /** The order; behind it WAITED and the minute; null: NONE. */
        List<Integer> raise(int set, int[] coming) {
            List<Integer> order = new ArrayList<>();
            Map<Integer, Integer> inAt = new HashMap<>();
            for (int p = 0; p < parts.size(); p++) {
                if (in(set, p)) {
                    if (coming[p] == NONE) return null;
                    order.add(p);
                }
            }
            order.sort(Comparator.comparingInt((Integer p) -> readyOf(p, coming)).thenComparingInt(p -> p));
            int clock = 0, waited = NONE;
            for (int i = 0; i < order.size(); i++) {
                int p = order.get(i), begin = Math.max(clock, coming[p]);
                for (int q : parts.get(p).behind) begin = Math.max(begin, inAt.get(q));
                if (begin == coming[p] && (i == 0 || begin > clock)) waited = p;
                clock = begin + parts.get(p).minutes;
                inAt.put(p, clock);
            }
            order.add(waited);
            order.add(clock);
            return order;
        }

        int minuteOf(List<Integer> raised) { return raised == null ? NONE : raised.get(raised.size() - 1); }
        int all() { return (1 << parts.size()) - 1; }
        int or500(int minute) { return minute == NONE ? 500 : minute; }
        List<Integer> raiseAll(int fire, int first) { return raise(all(), comings(plan, fire, first, away, keptAt)); }

        int awake(int first, int h) { return noHouse(first, h) ? UNKNOWN : awakeBy(plan, first, away, h, 0); }
        int comes(int fire, int first, int p) {
            if (noHouse(fire, first) || noPart(p)) return UNKNOWN;
            return comesFrom(plan, fire, first, away, keptAt[p]);
        }
        int stands(int fire, int first) { return noHouse(fire, first) ? UNKNOWN : minuteOf(raiseAll(fire, first)); }
        int put(int fire, int first, int i) {
            if (noHouse(fire, first)) return UNKNOWN;
            List<Integer> raised = raiseAll(fire, first);
            return raised == null || i < 0 || i >= parts.size() ? NONE : raised.get(i);
        }
        int waited(int fire, int first) {
            if (noHouse(fire, first)) return UNKNOWN;
            List<Integer> raised = raiseAll(fire, first);
            return raised == null ? NONE : raised.get(raised.size() - 2);
        }

        int odds(int fire, int first, int quarter, int what) {
            if (noHouse(fire, first)) return UNKNOWN;
            if (quarter < 0 || quarter > 3 || what < 0 || what > 1) return OUTSIDE;
            long[] sums = new long[2];
            split(0, 0, 1000000000L, fire, first, quarter, sums);
            return what == 0 ? (int) (sums[0] / 1000000) : (int) sums[1];
        }

        void split(int h, int gone, long share, int fire, int first, int quarter, long[] sums) {
            if (h == houses.size()) {
                int minute = or500(minuteOf(raise(all(), comings(plan, fire, first, gone, keptAt))));
                sums[0] += share * minute;
                if (share > 0) sums[1] = Math.max(sums[1], minute);
            } else if (h == first) {
                split(h + 1, gone, share, fire, first, quarter, sums);
            } else {
                long off = share * houses.get(h).odds[quarter] / 100;
                split(h + 1, gone + (1 << h), off, fire, first, quarter, sums);
                split(h + 1, gone, share - off, fire, first, quarter, sums);
            }
        }

        int night(int quarter) {
            if (quarter < 0 || quarter > 3) return OUTSIDE;
            away = 0;
            for (int h = 0; h < houses.size(); h++) {
                seed = (seed * 1103515245L + 12345L) % (1L << 31);
                if (seed / 65536 % 100 < houses.get(h).odds[quarter]) away += 1 << h;
            }
            return away;
        }

        int crier(int fire, int first, int i) {
            if (noHouse(fire, first)) return UNKNOWN;
            List<Integer> cried = new ArrayList<>();
            for (int h = 0; h < houses.size(); h++) if (h != first && house(h, 6) != 0) cried.add(h);
            if (cried.size() > 7) return NOT;
            List<Integer> best = new ArrayList<>();
            cry(fire, first, new ArrayList<>(), cried, best);
            if (i == NONE) return best.get(0);
            return i < 0 || i >= cried.size() ? NONE : best.get(i + 1);
        }

        void cry(int fire, int first, List<Integer> round, List<Integer> left, List<Integer> best) {
            if (left.isEmpty()) {
                List<Wake> by = new ArrayList<>();
                for (int h : round) by.add(new Wake(first, h));
                int minute = or500(minuteOf(raise(all(), comings(by, fire, first, away, keptAt))));
                if (best.isEmpty() || minute < best.get(0)) {
                    best.clear();
                    best.add(minute);
                    best.addAll(round);
                }
            }
            for (int h : left) {
                List<Integer> longer = new ArrayList<>(round), fewer = new ArrayList<>(left);
                longer.add(h);
                fewer.remove(Integer.valueOf(h));
                cry(fire, first, longer, fewer, best);
            }
        }

        int keepAt(int p, int h) {
            if (noPart(p) || noHouse(h)) return UNKNOWN;
            int was = keptAt[p];
            keptAt[p] = h;
            return was;
        }

        int kept(int first, int t, int what) {
            if (noHouse(first)) return UNKNOWN;
            if (t < 0 || t > 999 || what < 0 || what > 4) return OUTSIDE;
            int[][] from = new int[houses.size()][houses.size()];
            for (int f = 0; f < from.length; f++) {
                for (int h = 0; h < from.length; h++) from[f][h] = comesFrom(plan, f, first, 0, h);
            }
            int[] found = findMoves(from, t);
            return found == null || what > 2 * found[0] ? NONE : found[what];
        }

        int[] findMoves(int[][] from, int t) {
            if (inTime(from, t, keptAt)) return new int[] {0};
            int n = parts.size() * houses.size();
            for (int x = 0; x < n; x++) {
                int[] where = moved(keptAt, x);
                if (where != null && inTime(from, t, where)) return new int[] {1, x / houses.size(), x % houses.size()};
            }
            for (int x = 0; x < n; x++) {
                for (int y = 0; y < n; y++) {
                    if (y / houses.size() <= x / houses.size()) continue;
                    int[] one = moved(keptAt, x), where = one == null ? null : moved(one, y);
                    if (where != null && inTime(from, t, where)) {
                        return new int[] {2, x / houses.size(), x % houses.size(), y / houses.size(), y % houses.size()};
                    }
                }
            }
            return null;
        }

        int[] moved(int[] where, int x) {
            int p = x / houses.size(), h = x % houses.size();
            if (where[p] == h) return null;
            int[] other = where.clone();
            other[p] = h;
            return other;
        }

        boolean inTime(int[][] from, int t, int[] where) {
            for (int[] row : from) {
                int[] coming = new int[parts.size()];
                for (int p = 0; p < coming.length; p++) coming[p] = row[where[p]];
                int minute = minuteOf(raise(all(), coming));
                if (minute == NONE || minute > t) return false;
            }
            return true;
        }

        boolean canBeIn(int set, int p) {
            return in(set, p) && parts.get(p).behind.stream().allMatch(q -> canBeIn(set, q));
        }
        int closed(int set) {
            int those = 0;
            for (int p = 0; p < parts.size(); p++) if (canBeIn(set, p)) those += 1 << p;
            return those;
        }
        int reach(int set) {
            if (strange(set, parts.size())) return UNKNOWN;
            int sum = 0;
            for (int p = 0; p < parts.size(); p++) if (canBeIn(set, p)) sum += parts.get(p).gain;
            return sum;
        }

        int needed(int r) {
            if (r < 0 || r > 9999) return OUTSIDE;
            for (int many = 0; many <= parts.size(); many++) {
                for (int set = 0; set <= all(); set++) {
                    if (Integer.bitCount(set) == many && reach(set) >= r) return set;
                }
            }
            return NONE;
        }

        int fit(int slot, int set) {
            if (noPart(slot) || strange(set, parts.size())) return UNKNOWN;
            int was = fits[slot];
            fits[slot] = set;
            if (!in(set, slot)) fits[slot] += 1 << slot;
            return was;
        }

        int ladders(int set, int m) {
            if (strange(set, parts.size())) return UNKNOWN;
            if (m < 0 || m > parts.size()) return OUTSIDE;
            return waysFrom(0, set, m, new HashMap<>());
        }
        int waysFrom(int slot, int left, int m, Map<Integer, Integer> known) {
            if (slot == m) return 1;
            Integer old = known.get(left);
            if (old != null) return old;
            int sum = 0;
            for (int p = 0; p < parts.size(); p++) {
                if (in(left, p) && in(fits[slot], p)) sum += waysFrom(slot + 1, left - (1 << p), m, known);
            }
            known.put(left, sum);
            return sum;
        }
        int longest(int set) {
            if (strange(set, parts.size())) return UNKNOWN;
            int m = parts.size();
            while (ladders(set, m) == 0) m--;
            return m;
        }

        int cost(int p, int c) {
            if (noPart(p)) return UNKNOWN;
            if (c < 0 || c > 99) return OUTSIDE;
            int was = cost[p];
            cost[p] = c;
            return was;
        }
        int store(int h) {
            if (noHouse(h)) return UNKNOWN;
            int was = store;
            store = h;
            return was;
        }

        int spares(int fire, int first, int c, int what) {
            if (noHouse(fire, first)) return UNKNOWN;
            if (c < 0 || c > 999 || what < 0 || what > 1) return OUTSIDE;
            int[] own = comings(plan, fire, first, away, keptAt);
            int spare = comesFrom(plan, fire, first, away, store);
            int[] best = null;
            for (int set = 0; set <= all(); set++) {
                int price = 0;
                int[] coming = own.clone();
                for (int p = 0; p < own.length; p++) {
                    if (!in(set, p)) continue;
                    price += cost[p];
                    if (spare != NONE && (own[p] == NONE || spare < own[p])) coming[p] = spare;
                }
                if (price > c) continue;
                int[] it = {or500(minuteOf(raise(all(), coming))), price, set};
                if (best == null || Arrays.compare(it, best) < 0) best = it;
            }
            return what == 0 ? best[2] : best[0];
        }

        int two(int f, int g, int first, int r) {
            if (noHouse(f, g, first)) return UNKNOWN;
            if (r < 0 || r > 9999) return OUTSIDE;
            int[] atF = comings(plan, f, first, away, keptAt), atG = comings(plan, g, first, away, keptAt);
            for (int p = 0; p < atF.length; p++) {
                atF[p] = or500(atF[p]);
                atG[p] = or500(atG[p]);
            }
            int least = NONE;
            for (int set = 0; set <= all(); set++) {
                if (reach(set) < r || reach(all() - set) < r) continue;
                int minute = Math.max(minuteOf(raise(closed(set), atF)), minuteOf(raise(closed(all() - set), atG)));
                if (least == NONE || minute < least) least = minute;
            }
            return least;
        }

        int log(int p, int minute) {
            if (noPart(p)) return UNKNOWN;
            if (minute < 0 || minute > 999) return OUTSIDE;
            log.put(p, minute);
            return log.size();
        }
        int clear() {
            int had = log.size();
            log.clear();
            return had;
        }
        int late(int fire, int first, int p) {
            int comes = comes(fire, first, p);
            if (comes == UNKNOWN) return UNKNOWN;
            return comes == NONE || !log.containsKey(p) || log.get(p) < comes ? 0 : log.get(p) - comes;
        }
        int judge(int fire, int first, int what) {
            if (noHouse(fire, first)) return UNKNOWN;
            if (what < 0 || what > 1) return OUTSIDE;
            int latest = NONE;
            int[] coming = comings(plan, fire, first, away, keptAt);
            for (int p = coming.length - 1; p >= 0; p--) {
                int by = late(fire, first, p);
                if (by > 0 && (latest == NONE || by >= late(fire, first, latest))) latest = p;
                if (log.containsKey(p)) coming[p] = log.get(p);
            }
            return what == 0 ? latest : minuteOf(raise(all(), coming));
        }
        int seed(int v) {
            if (v < 0) return OUTSIDE;
            int was = (int) seed;
            seed = v;
            return was;
        }
        int keep(int i) {
            if (i != 0 && i != 1) return UNKNOWN;
            images[i] = new Object[] {keptAt.clone(), away, fits.clone(), seed};
            return 1;
        }
        int goBack(int i) {
            if (i != 0 && i != 1) return UNKNOWN;
            if (images[i] == null) return NOT;
            keptAt = ((int[]) images[i][0]).clone();
            away = (Integer) images[i][1];
            fits = ((int[]) images[i][2]).clone();
            seed = (Long) images[i][3];
            return 1;
        }
    }

    /** One run: an object and its model, called alike. */
    static final class Run {
        final NineHouses x = new NineHouses();
        final Model y = new Model();
        final Random dice;
        final List<String> story = new ArrayList<>();
        int calls = 0;
        boolean wrong = false;

        Run(long number) { dice = new Random(number); }

        boolean goesOn() { return calls < 512 && !wrong; }

        int due(String call, int got, int want) {
            calls++;
            story.add(call + " = " + got);
            if (got != want) {
                wrong = true;
                System.out.println(call + " answered " + got + ", due is " + want + " behind " + story);
            }
            return want;
        }

        int from(int least, int most) { return least + dice.nextInt(most - least + 1); }
        boolean once(int in) { return dice.nextInt(in) == 0; }
        /** Mostly what there is, now and then one that there is not. */
        int some(int count) { return once(25) ? (once(2) ? -1 - from(0, 1) : count + from(0, 2)) : count == 0 ? 0 : dice.nextInt(count); }
        int bounded(int most) { return once(25) ? (once(2) ? -1 : most + 1) : from(0, most); }
        int h() { return some(y.houses.size()); }
        /** Often the HOUSE that THE PLAN begins with, so that the ladder stands. */
        int first() { return y.plan.isEmpty() || once(3) ? h() : y.plan.get(0).a; }
        int p() { return some(y.parts.size()); }
        int set(int count) { return once(25) ? (once(2) ? 1 << count : dice.nextInt()) : dice.nextInt(1 << count); }

        void tell(String text) {
            for (int at = 0; at < text.length() && goesOn(); at += 8) {
                String piece = text.substring(at, Math.min(text.length(), at + 8));
                // bytes above those asked for are to be passed over
                long bytes = piece.length() < 8 ? dice.nextInt(9) - 4 : 0;
                for (char sign : piece.toCharArray()) bytes = bytes << 8 | sign;
                due("feed(" + piece + ")", x.feed(piece.length(), bytes), y.feed(piece.length(), bytes));
            }
        }

        String parishText(int mostHouses, int mostParts, boolean thin) {
            StringBuilder b = new StringBuilder();
            int hs = from(once(9) ? 0 : 1, mostHouses), ps = hs == 0 ? 0 : from(0, mostParts);
            for (int h = 0; h < hs; h++) {
                b.append("house ").append(from(0, once(5) ? 60 : 9)).append(' ').append(from(0, 9));
                for (int q = 0; q < 4; q++) b.append(' ').append(new int[] {0, 100, from(0, 100), 50, 1}[from(0, 4)]);
                b.append(';');
            }
            for (int a = 0; a < hs; a++) {
                for (int c = a + 1; c < hs; c++) {
                    if (once(thin ? hs + 1 : 2) && b.length() < 400) b.append("way ").append(once(2) ? a + " " + c : c + " " + a)
                        .append(' ').append(from(1, once(4) ? 99 : 12)).append(';');
                }
            }
            for (int p = 0; p < ps; p++) {
                StringBuilder c = new StringBuilder();
                c.append("part ").append(from(0, hs - 1)).append(' ').append(from(0, 6)).append(' ').append(from(0, 9));
                String sign = "on ";
                for (int q = 0; q < p; q++) {
                    if (once(4)) {
                        c.append(sign).append(q);
                        sign = ",";
                    }
                }
                if (b.length() + c.length() < 599) b.append(c).append(';');
            }
            return b.toString();
        }

        /** Mostly a tree from one HOUSE on, at times with its root woken too; now and then whatever comes. */
        String planText() {
            List<Integer> left = new ArrayList<>();
            for (int h = 0; h < y.houses.size(); h++) left.add(h);
            Collections.shuffle(left, dice);
            List<String> clauses = new ArrayList<>();
            int width = from(1, 4);
            boolean wild = once(4);
            for (int i = wild || once(4) ? 0 : 1; i < left.size(); i++) {
                int by = wild || i == 0 ? dice.nextInt(left.size()) : Math.max(0, i - from(1, width));
                if (by != i && !once(30)) clauses.add("wake " + left.get(by) + " " + left.get(i) + ";");
            }
            if (once(2)) Collections.shuffle(clauses, dice);
            return String.join("", clauses);
        }

        String spoilt(String text) {
            String signs = " 0123456789;,,abhwpeno" + (char) 233 + "H\t";
            String[] pieces = {"house", "way", "part", "on", "wake", " ", "999", "1000", "100", "61", "0", ";", ",", "00", "on 0,0"};
            StringBuilder b = new StringBuilder(text);
            for (int n = from(1, 3); n > 0; n--) {
                int at = dice.nextInt(b.length() + 1);
                switch (from(0, 6)) {
                    case 5:
                    case 6: otherNumber(b, at); break;
                    case 0: if (at < b.length()) b.deleteCharAt(at); break;
                    case 1: if (at < b.length()) b.setCharAt(at, signs.charAt(dice.nextInt(signs.length()))); break;
                    case 2: b.insert(at, pieces[dice.nextInt(pieces.length)]); break;
                    case 3: b.insert(at, signs.charAt(dice.nextInt(signs.length()))); break;
                    default: if (once(4)) b.setLength(at); else b.append(pieces[dice.nextInt(pieces.length)]); break;
                }
            }
            return b.substring(0, Math.min(b.length(), 600));
        }

        /** Puts another NUMBER in place of the first one behind a byte. */
        void otherNumber(StringBuilder b, int at) {
            Matcher m = Pattern.compile("[0-9]+").matcher(b);
            if (m.find(at)) b.replace(m.start(), m.end(), String.valueOf(once(3) ? from(0, 120) : from(0, 9)));
        }

        void makeParish(int mostHouses, int mostParts) {
            tell(parishText(mostHouses, mostParts, once(3)));
            due("parish()", x.parish(), y.parish());
            makePlan();
        }
        void makePlan() {
            tell(planText());
            due("plan()", x.plan(), y.plan());
        }

        /** Texts, most of them spoilt, and what is told then. */
        void readMany() {
            while (goesOn()) {
                boolean isPlan = once(2);
                String text = isPlan ? planText() : parishText(once(2) ? 3 : 9, once(2) ? 4 : 12, once(2));
                tell(once(4) ? text : spoilt(text));
                if (once(9) ? !isPlan : isPlan) due("plan()", x.plan(), y.plan()); else due("parish()", x.parish(), y.parish());
                due("fault()", x.fault(), y.fault);
                for (int what = -1; what <= 7; what++) ask(4, what, 0, 0, 0);
                for (int n = 0; n < 3; n++) ask(5 + n, n == 2 ? p() : h(), n == 1 ? h() : from(-1, 7), 0, 0);
            }
        }

        void askMany(int least, int most) {
            while (goesOn()) {
                if (once(150)) makeParish(5, 6);
                if (once(200)) makePlan();
                askOne(from(least, most));
            }
        }

        void askOne(int which) {
            int hs = y.houses.size(), ps = y.parts.size();
            switch (which) {
                case 4: ask(4, from(-1, 7), 0, 0, 0); break;
                case 5: ask(5, h(), from(-1, 7), 0, 0); break;
                case 6: ask(6, h(), h(), 0, 0); break;
                case 7: ask(7, p(), from(-1, 6), 0, 0); break;
                case 8: ask(8, once(3) ? 0 : once(3) ? set(hs) : set(hs) & set(hs), 0, 0, 0); break;
                case 9: ask(9, first(), h(), 0, 0); break;
                case 10: ask(10, h(), first(), p(), 0); break;
                case 11: ask(11, h(), first(), 0, 0); break;
                case 12: ask(12, h(), first(), from(-2, ps), 0); break;
                case 13: ask(13, h(), first(), 0, 0); break;
                case 14: ask(14, h(), first(), bounded(3), bounded(1)); break;
                case 15: ask(15, bounded(3), 0, 0, 0); break;
                case 16: ask(16, h(), first(), from(-2, 8), 0); break;
                case 17: ask(17, p(), h(), 0, 0); break;
                case 18: ask(18, first(), once(9) ? bounded(999) : from(0, 150), bounded(4), 0); break;
                case 19: ask(19, set(ps), 0, 0, 0); break;
                case 20: ask(20, once(9) ? bounded(9999) : from(0, 5 * ps), 0, 0, 0); break;
                case 21: ask(21, p(), set(ps), 0, 0); break;
                case 22: ask(22, set(ps) | set(ps), bounded(ps), 0, 0); break;
                case 23: ask(23, set(ps) | set(ps), 0, 0, 0); break;
                case 24: ask(24, p(), once(3) ? from(0, 1) : bounded(99), 0, 0); break;
                case 25: ask(25, h(), 0, 0, 0); break;
                case 26: ask(26, h(), first(), once(9) ? bounded(999) : from(0, 60), bounded(1)); break;
                case 27: ask(27, h(), h(), first(), once(9) ? bounded(9999) : from(0, 3 * ps)); break;
                case 28: ask(28, p(), once(2) ? from(0, 40) : bounded(999), 0, 0); break;
                case 29: if (once(9)) ask(29, 0, 0, 0, 0); break;
                case 30: ask(30, h(), first(), p(), 0); break;
                case 31: ask(31, h(), first(), bounded(1), 0); break;
                case 32: ask(32, once(9) ? dice.nextInt() : from(0, 2147483647 - 1), 0, 0, 0); break;
                case 33: ask(33, bounded(1), 0, 0, 0); break;
                default: ask(34, bounded(1), 0, 0, 0); break;
            }
        }

        void ask(int which, int a, int b, int c, int d) {
            String call = "call " + which + "(" + a + ", " + b + ", " + c + ", " + d + ")";
            switch (which) {
                case 4: due(call, x.told(a), y.told(a)); break;
                case 5: due(call, x.house(a, b), y.house(a, b)); break;
                case 6: due(call, x.far(a, b), y.far(a, b)); break;
                case 7: due(call, x.part(a, b), y.part(a, b)); break;
                case 8: due(call, x.away(a), y.away(a)); break;
                case 9: due(call, x.awake(a, b), y.awake(a, b)); break;
                case 10: due(call, x.comes(a, b, c), y.comes(a, b, c)); break;
                case 11: due(call, x.stands(a, b), y.stands(a, b)); break;
                case 12: due(call, x.put(a, b, c), y.put(a, b, c)); break;
                case 13: due(call, x.waited(a, b), y.waited(a, b)); break;
                case 14: due(call, x.odds(a, b, c, d), y.odds(a, b, c, d)); break;
                case 15: due(call, x.night(a), y.night(a)); break;
                case 16: due(call, x.crier(a, b, c), y.crier(a, b, c)); break;
                case 17: due(call, x.keepAt(a, b), y.keepAt(a, b)); break;
                case 18: due(call, x.kept(a, b, c), y.kept(a, b, c)); break;
                case 19: due(call, x.reach(a), y.reach(a)); break;
                case 20: due(call, x.needed(a), y.needed(a)); break;
                case 21: due(call, x.fit(a, b), y.fit(a, b)); break;
                case 22: due(call, x.ladders(a, b), y.ladders(a, b)); break;
                case 23: due(call, x.longest(a), y.longest(a)); break;
                case 24: due(call, x.cost(a, b), y.cost(a, b)); break;
                case 25: due(call, x.store(a), y.store(a)); break;
                case 26: due(call, x.spares(a, b, c, d), y.spares(a, b, c, d)); break;
                case 27: due(call, x.two(a, b, c, d), y.two(a, b, c, d)); break;
                case 28: due(call, x.log(a, b), y.log(a, b)); break;
                case 29: due(call, x.clear(), y.clear()); break;
                case 30: due(call, x.late(a, b, c), y.late(a, b, c)); break;
                case 31: due(call, x.judge(a, b, c), y.judge(a, b, c)); break;
                case 32: due(call, x.seed(a), y.seed(a)); break;
                case 33: due(call, x.keep(a), y.keep(a)); break;
                default: due(call, x.goBack(a), y.goBack(a)); break;
            }
        }
    }

    public static void main(String[] args) {
        int runs = args.length > 0 ? Integer.parseInt(args[0]) : 150;
        int wrong = 0;
        for (int n = 0; n < runs && wrong < 3; n++) {
            Run texts = new Run(n);
            texts.readMany();
            Run small = new Run(100000 + n);
            small.makeParish(5, 6);
            small.askMany(4, 34);
            Run cheap = new Run(200000 + n);
            cheap.makeParish(9, 12);
            cheap.askMany(5, 13);
            for (Run run : List.of(texts, small, cheap)) if (run.wrong) wrong++;
        }
        for (int n = 0; n < runs / 10 && wrong < 3; n++) {
            Run great = new Run(300000 + n);
            great.makeParish(9, 12);
            for (int k = 0; k < 80 && great.goesOn(); k++) great.askOne(great.from(4, 34));
            if (great.wrong) wrong++;
        }
        System.out.println(wrong == 0 ? "all answers are the model's" : wrong + " runs are not the model's");
        if (wrong != 0) System.exit(1);
    }
}
