import java.util.ArrayList;
import java.util.Arrays;
import java.util.HashMap;
import java.util.List;
import java.util.Map;
import java.util.TreeMap;
import java.util.TreeSet;
import java.util.regex.Matcher;
import java.util.regex.Pattern;

/**
 * The document once more, told in another way (second by second, by lists and maps, without care for
 * room or speed), so that random runs can be laid beside the class.
 */
final class Model {
    record Spot(char kind, int room, int hidden) {
    }

    record Child(int age, int pace) {
    }

    static final class State {
        List<Spot> spots = new ArrayList<>(List.of(new Spot('B', 0, 0)));
        Map<List<Integer>, Integer> ways = new HashMap<>();
        TreeSet<Integer> views = new TreeSet<>();
        List<Child> children = new ArrayList<>();
        int[] times = new int[8];
        int[] settings = {40, 0, 5, 0, 0, 300, 1};
        List<Integer> order = new ArrayList<>();
        Outcome latest = null;
        int played = 0;

        State copy() {
            State s = new State();
            s.spots = new ArrayList<>(spots);
            s.ways = new HashMap<>(ways);
            s.views = new TreeSet<>(views);
            s.children = new ArrayList<>(children);
            s.times = times.clone();
            s.settings = settings.clone();
            s.order = new ArrayList<>(order);
            s.latest = latest;
            s.played = played;
            return s;
        }
    }

    static final class Outcome {
        int[] where;
        String[] how;
        int[] when;
        List<Integer> finds = new ArrayList<>();
        List<Integer> knownPlaces = new ArrayList<>();
        int last;

        int many(String end) {
            return (int) Arrays.stream(how).filter(end::equals).count();
        }
    }

    private State s = new State();
    private State image = null;
    private String tape = "";
    private List<Integer> row = new ArrayList<>();
    private final int[] refusals = new int[17];

    private int no(int number) {
        refusals[10 - number]++;
        return number;
    }

    private boolean isPlace(int p) {
        return p >= 0 && p < s.spots.size();
    }

    private boolean hides(int p) {
        return p >= 1 && p < s.spots.size();
    }

    private boolean isChild(int h) {
        return h >= 0 && h < s.children.size();
    }

    int feed(int n, long bytes) {
        if (n < 1) return no(-4);
        if (n > 8 || tape.length() + n > 64) return no(-6);
        for (int i = 0; i < n; i++) tape += (char) ((bytes >> (8 * i)) & 255);
        return tape.length();
    }

    private static final Pattern STATEMENT = Pattern.compile(
            "p([pksgmnhd])(\\d)(\\d\\d);|w(\\d)(\\d),(\\d{1,2});|v(\\d)(\\d);|h(\\d{1,2}),(\\d);", Pattern.DOTALL);

    /** Whether some whole text begins so: the fault's place is found by the longest such beginning. */
    private static boolean canGoOn(String text) {
        Matcher m = Pattern.compile("(?:" + STATEMENT.pattern() + ")*", Pattern.DOTALL).matcher(text);
        m.lookingAt();
        String rest = text.substring(m.end());
        if (rest.isEmpty()) return true;
        Matcher open = STATEMENT.matcher(rest);
        return !open.matches() && open.hitEnd() || open.matches();
    }

    int garden() {
        String text = tape;
        tape = "";
        for (int i = 1; i <= text.length(); i++) {
            if (!canGoOn(text.substring(0, i))) return -1000 - (i - 1);
        }
        if (text.isEmpty() || text.charAt(text.length() - 1) != ';') return -1000 - text.length();
        State next = s.copy();
        Matcher m = STATEMENT.matcher(text);
        int many = 0;
        while (m.find()) {
            if (!apply(next, m)) return -2000 - m.start();
            many++;
        }
        s = next;
        return many;
    }

    private static boolean apply(State t, Matcher m) {
        switch (m.group().charAt(0)) {
            case 'p':
                t.spots.add(new Spot(m.group(1).charAt(0), num(m, 2), num(m, 3)));
                return t.spots.size() <= 8;
            case 'w':
                int a = Math.min(num(m, 4), num(m, 5)), b = Math.max(num(m, 4), num(m, 5)), w = num(m, 6);
                if (a == b || b >= t.spots.size() || w < 1 || w > 60) return false;
                return t.ways.put(List.of(a, b), w) == null && t.ways.size() <= 14;
            case 'v':
                int from = num(m, 7), to = num(m, 8);
                if (from == to || Math.max(from, to) >= t.spots.size()) return false;
                return t.views.add(from * 10 + to);
            default:
                int age = num(m, 9), pace = num(m, 10);
                t.children.add(new Child(age, pace));
                return age >= 2 && age <= 15 && pace >= 1 && t.children.size() <= 8;
        }
    }

    private static int num(Matcher m, int group) {
        return Integer.parseInt(m.group(group));
    }

    int place(int p, int what) {
        if (!isPlace(p)) return no(-1);
        if (what < 0 || what > 3) return no(-2);
        Spot spot = s.spots.get(p);
        return new int[] {"pksgmnhdB".indexOf(spot.kind), spot.room, spot.hidden, s.times[p]}[what];
    }

    private boolean see(int from, int to) {
        return from == to || s.views.contains(from * 10 + to);
    }

    int sees(int from, int to) {
        if (!isPlace(from) || !isPlace(to)) return no(-1);
        return see(from, to) ? 1 : 0;
    }

    private int way(int a, int b) {
        return s.ways.getOrDefault(List.of(Math.min(a, b), Math.max(a, b)), 0);
    }

    /** Bellman's way: as many sweeps as there are places. */
    private int off(int from, int to) {
        int[] d = new int[s.spots.size()];
        Arrays.fill(d, 1 << 20);
        d[from] = 0;
        for (int i = 0; i < d.length; i++) {
            for (Map.Entry<List<Integer>, Integer> e : s.ways.entrySet()) {
                int a = e.getKey().get(0), b = e.getKey().get(1);
                d[a] = Math.min(d[a], d[b] + e.getValue());
                d[b] = Math.min(d[b], d[a] + e.getValue());
            }
        }
        return d[to] >= 1 << 20 ? -9 : d[to];
    }

    int far(int from, int to) {
        if (!isPlace(from) || !isPlace(to)) return no(-1);
        return off(from, to);
    }

    int hider(int h, int what) {
        if (!isChild(h)) return no(-1);
        if (what != 0 && what != 1) return no(-2);
        return what == 0 ? s.children.get(h).age : s.children.get(h).pace;
    }

    int times(int p, int v) {
        if (!hides(p)) return no(-1);
        if (v < 0) return no(-4);
        if (v > 99) return no(-6);
        int was = s.times[p];
        s.times[p] = v;
        return was;
    }

    int set(int what, int v) {
        if (what < 0 || what > 6) return no(-2);
        if (v < new int[] {1, 0, 0, 0, 0, 10, 0}[what]) return no(-4);
        if (v > new int[] {99, 50, 60, 4, 1, 900, 9}[what]) return no(-6);
        int was = s.settings[what];
        s.settings[what] = v;
        return was;
    }

    int order(int n, long places) {
        if (n < 0) return no(-4);
        if (n > 8) return no(-6);
        List<Integer> next = new ArrayList<>();
        for (int i = 0; i < n; i++, places /= 10) {
            int digit = (int) (places % 10);
            if (!hides(digit)) return no(-1);
            next.add(digit);
        }
        int was = s.order.size();
        s.order = next;
        return was;
    }

    private int hold(int v) {
        return v < 0 ? 0 : v > 99 ? 99 : v;
    }

    private int covered(int p, int second, int many, int times) {
        Spot spot = s.spots.get(p);
        int known = spot.hidden - 5 * times;
        int seldom = spot.hidden + 10;
        return switch (spot.kind) {
            case 'k' -> hold(known);
            case 'n' -> hold(hold(known) - 5);
            case 's' -> hold(seldom);
            case 'd' -> hold(hold(seldom) + s.settings[1]);
            case 'g' -> many > 1 ? spot.hidden / 2 : spot.hidden;
            case 'm' -> (second & 1) == 1 ? spot.hidden / 2 : spot.hidden;
            default -> spot.hidden;
        };
    }

    int cover(int p, int second, int many) {
        if (!hides(p)) return no(-1);
        if (second < 0 || many < 0) return no(-4);
        if (second > 999 || many > 9) return no(-6);
        return covered(p, second, many, s.times[p]);
    }

    private int running(int h, int p) {
        int d = off(p, 0);
        if (d < 0) return -9;
        int sum = d * 10 / (s.children.get(h).pace + 5);
        if (s.spots.get(p).kind == 'h') sum += 5;
        return sum < 1 ? 1 : sum;
    }

    int run(int h, int p) {
        if (!isChild(h) || !hides(p)) return no(-1);
        return running(h, p);
    }

    private int z;

    private int draw(int n) {
        z = z * 1664525 + 1013904223;
        return ((z & Integer.MAX_VALUE) >>> 8) % n;
    }

    private int choose(int h, int[] where, int rule) {
        List<Integer> may = new ArrayList<>();
        for (int p = 1; p < s.spots.size(); p++) {
            int taken = 0;
            for (int i = 0; i < h; i++) taken += where[i] == p ? 1 : 0;
            int d = off(0, p);
            if (d >= 0 && d * 10 / (s.children.get(h).pace + 5) <= s.settings[0] && taken < s.spots.get(p).room) may.add(p);
        }
        if (may.isEmpty()) return 0;
        switch (rule) {
            case 1:
                return may.stream().max((a, b) -> s.spots.get(a).hidden != s.spots.get(b).hidden
                        ? s.spots.get(a).hidden - s.spots.get(b).hidden : b - a).get();
            case 2:
                return may.stream().max((a, b) -> off(0, a) != off(0, b) ? off(0, a) - off(0, b) : b - a).get();
            case 3:
                return may.get(draw(may.size()));
            case 4:
                return h > 0 && may.contains(where[h - 1]) ? where[h - 1] : may.get(0);
            default:
                return may.get(0);
        }
    }

    /** Her whole way ahead of time: at which SECOND she comes to which PLACE, and when she goes on. */
    private TreeMap<Integer, int[]> journey(List<Integer> order) {
        TreeMap<Integer, int[]> legs = new TreeMap<>();
        List<Integer> goals = new ArrayList<>(order);
        goals.add(0);
        int at = 0, second = 0;
        for (int goal : goals) {
            if (off(0, goal) < 0) continue;
            while (at != goal) {
                int to = -1;
                for (int q = s.spots.size() - 1; q >= 0; q--) {
                    if (way(at, q) > 0 && way(at, q) + off(q, goal) == off(at, goal) && off(q, goal) >= 0) to = q;
                }
                int arrival = second + way(at, to);
                legs.put(second, new int[] {at, to, arrival});
                at = to;
                second = arrival + s.settings[6];
            }
        }
        return legs;
    }

    private Outcome play(int seed, List<Integer> order, int rule) {
        z = seed;
        int n = s.children.size();
        Outcome o = new Outcome();
        o.where = new int[n];
        o.how = new String[n];
        o.when = new int[n];
        for (int h = 0; h < n; h++) {
            o.where[h] = choose(h, o.where, rule);
            o.how[h] = o.where[h] == 0 ? "FOUND" : "HIDES";
            if (o.where[h] == 0) o.finds.add(h);
        }
        TreeMap<Integer, int[]> legs = journey(order);
        for (int second = 0; ; second++) {
            o.last = second;
            int standsAt = standing(legs, second, true);
            if (comes(legs, second)) look(o, standsAt, second);
            for (int h = 0; h < n; h++) {
                if (!o.how[h].equals("RUNS") || o.when[h] != second) continue;
                o.how[h] = standsAt == 0 ? "FOUND" : "FREE";
                if (standsAt == 0) o.finds.add(h);
                boolean open = o.many("HIDES") + o.many("RUNS") > 0;
                if (s.settings[4] == 1 && !open && o.how[h].equals("FREE")) {
                    for (int i = 0; i < n; i++) {
                        if (o.how[i].equals("FOUND")) {
                            o.how[i] = "FREE";
                            o.when[i] = second;
                        }
                    }
                }
            }
            int back = back(legs, second);
            for (int h = 0; h < n; h++) {
                if (o.how[h].equals("HIDES") && running(h, o.where[h]) + s.settings[2] < back) {
                    o.how[h] = "RUNS";
                    o.when[h] = second + running(h, o.where[h]);
                }
            }
            if (o.many("HIDES") + o.many("RUNS") == 0 || second == s.settings[5]) break;
        }
        for (int h = 0; h < n; h++) {
            if (o.how[h].equals("HIDES") || o.how[h].equals("RUNS")) {
                o.how[h] = "WON";
                o.when[h] = o.last;
            }
        }
        return o;
    }

    private static boolean comes(TreeMap<Integer, int[]> legs, int second) {
        Map.Entry<Integer, int[]> leg = legs.lowerEntry(second);
        return leg != null && leg.getValue()[2] == second;
    }

    /** Where she stands before she goes on at that SECOND; -1 on a way. */
    private static int standing(TreeMap<Integer, int[]> legs, int second, boolean before) {
        Map.Entry<Integer, int[]> leg = before ? legs.lowerEntry(second) : legs.floorEntry(second);
        if (leg == null) return 0;
        return leg.getValue()[2] <= second ? leg.getValue()[1] : -1;
    }

    private int back(TreeMap<Integer, int[]> legs, int second) {
        int stands = standing(legs, second, false);
        if (stands >= 0) return off(stands, 0);
        int[] leg = legs.floorEntry(second).getValue();
        return leg[2] - second + off(leg[1], 0);
    }

    private void look(Outcome o, int at, int second) {
        for (int h = 0; h < o.how.length; h++) {
            int p = o.where[h];
            if (!o.how[h].equals("HIDES") || !see(at, p)) continue;
            int many = 0;
            for (int i = 0; i < o.how.length; i++) many += o.how[i].equals("HIDES") && o.where[i] == p ? 1 : 0;
            int c = covered(p, second, many, s.times[p]);
            if (s.children.get(h).age < 6) c = c < 10 ? 0 : c - 10;
            if (at == p) c /= 2;
            if (draw(100) < c) continue;
            o.how[h] = "FOUND";
            o.when[h] = second;
            o.finds.add(h);
            o.knownPlaces.add(p);
        }
    }

    int round(int seed) {
        Outcome o = play(seed, s.order, s.settings[3]);
        s.latest = o;
        s.played++;
        for (int p : o.knownPlaces) s.times[p] = Math.min(99, s.times[p] + 1);
        return o.many("FOUND");
    }

    int mind(int seed, int what) {
        if (what < 0 || what > 3) return no(-2);
        Outcome o = play(seed, s.order, s.settings[3]);
        return what == 3 ? o.last : o.many(List.of("FOUND", "FREE", "WON").get(what));
    }

    int of(int h, int what) {
        if (!isChild(h)) return no(-1);
        if (what < 0 || what > 2) return no(-2);
        if (s.latest == null || h >= s.latest.how.length) return no(-3);
        if (what == 1) return List.of("FOUND", "FREE", "WON").indexOf(s.latest.how[h]);
        return what == 0 ? s.latest.where[h] : s.latest.when[h];
    }

    int found(int i) {
        if (i < 0) return no(-4);
        if (s.latest == null) return no(-3);
        return i < s.latest.finds.size() ? s.latest.finds.get(i) : -9;
    }

    int table(int h, int p) {
        if (!isChild(h) || !isPlace(p)) return no(-1);
        if (off(p, 0) < 0) return no(-3);
        int bits = 0;
        for (int q = 1; q < s.spots.size(); q++) {
            if (running(h, q) >= 0 && running(h, q) + s.settings[2] < off(p, 0)) bits += 1 << q;
        }
        return bits;
    }

    int mayGo() {
        int best = 0;
        for (int p = s.spots.size() - 1; p >= 0; p--) {
            boolean calm = off(p, 0) >= 0;
            for (int q = 1; q < s.spots.size() && calm; q++) {
                for (int h = 0; h < s.children.size(); h++) {
                    boolean runs = running(h, q) >= 0 && running(h, q) + s.settings[2] < off(p, 0);
                    if (q != p && s.spots.get(q).room > 0 && runs) calm = false;
                }
            }
            if (calm && off(p, 0) >= off(best, 0)) best = p;
        }
        return best;
    }

    private int seen(int set) {
        int bits = 0;
        for (int p = 0; p < s.spots.size(); p++) {
            for (int q = 0; q < s.spots.size(); q++) {
                if ((set & 1 << p) != 0 && see(p, q)) bits |= 1 << q;
            }
        }
        return bits;
    }

    /** Steps along single WAYS, by waves of SECONDS over (place, what was seen). */
    int allSeen() {
        int reach = 0;
        for (int p = 0; p < s.spots.size(); p++) if (off(0, p) >= 0) reach |= 1 << p;
        int goal = seen(reach);
        TreeMap<Integer, List<int[]>> waves = new TreeMap<>();
        waves.computeIfAbsent(0, k -> new ArrayList<>()).add(new int[] {0, seen(1)});
        boolean[] done = new boolean[8 * 256];
        while (true) {
            Map.Entry<Integer, List<int[]>> wave = waves.pollFirstEntry();
            for (int[] v : wave.getValue()) {
                if ((v[1] & goal) == goal) return wave.getKey();
                if (done[v[0] * 256 + v[1]]) continue;
                done[v[0] * 256 + v[1]] = true;
                for (int q = 0; q < s.spots.size(); q++) {
                    int w = way(v[0], q);
                    if (w > 0) waves.computeIfAbsent(wave.getKey() + w, k -> new ArrayList<>()).add(new int[] {q, v[1] | seen(1 << q)});
                }
            }
        }
    }

    int fewest() {
        for (int size = 1; size <= 8; size++) {
            for (int set = 1; set < 1 << s.spots.size(); set++) {
                if (Integer.bitCount(set) == size && seen(set) == (1 << s.spots.size()) - 1) return set;
            }
        }
        return -999;
    }

    private static List<List<Integer>> permutations(List<Integer> of) {
        List<List<Integer>> all = new ArrayList<>();
        if (of.isEmpty()) all.add(List.of());
        for (Integer first : of) {
            List<Integer> rest = new ArrayList<>(of);
            rest.remove(first);
            for (List<Integer> tail : permutations(rest)) {
                List<Integer> one = new ArrayList<>(List.of(first));
                one.addAll(tail);
                all.add(one);
            }
        }
        return all;
    }

    private static List<List<Integer>> orders(int k) {
        List<Integer> places = new ArrayList<>();
        for (int p = 1; p <= k; p++) places.add(p);
        return permutations(places);
    }

    private int tell(List<Integer> order, int place) {
        int sum = 0, at = 0;
        for (int p : order) {
            sum += off(at, p);
            at = p;
            if (p == place) break;
        }
        return sum;
    }

    private boolean noSuchPlaces(int k) {
        for (int p = 1; p <= k; p++) if (!isPlace(p) || off(0, p) < 0) return true;
        return false;
    }

    private List<Integer> placesTaken;
    private List<List<Integer>> ordersTaken;

    private int against(List<Integer> order) {
        return placesTaken.stream().mapToInt(p -> tell(order, p)).sum();
    }

    private int against(int place) {
        return ordersTaken.stream().mapToInt(o -> tell(o, place)).sum();
    }

    private void playGame(int k, int n) {
        placesTaken = new ArrayList<>();
        ordersTaken = new ArrayList<>();
        List<List<Integer>> orders = orders(k);
        for (int i = 0; i < n; i++) {
            int place = 1;
            for (int p = 2; p <= k; p++) if (against(p) > against(place)) place = p;
            List<Integer> order = orders.get(0);
            for (List<Integer> o : orders) if (against(o) < against(order)) order = o;
            placesTaken.add(place);
            ordersTaken.add(order);
        }
    }

    int game(int k, int n, int what, int part) {
        if (what < 0 || what > 1 || part < 0 || part > 1) return no(-2);
        if (k < 1 || n < 1) return no(-4);
        if (k > 4 || n > 60) return no(-6);
        if (noSuchPlaces(k)) return no(-3);
        playGame(k, n);
        int low = Integer.MAX_VALUE, high = 0;
        for (List<Integer> o : orders(k)) low = Math.min(low, against(o));
        for (int p = 1; p <= k; p++) high = Math.max(high, against(p));
        return fraction(what == 0 ? low : high, n, part);
    }

    private static int fraction(long above, long below, int part) {
        for (long d = below; ; d--) {
            if (above % d == 0 && below % d == 0) return (int) ((part == 0 ? above : below) / d);
        }
    }

    int taken(int k, int n, int place) {
        if (k < 1 || n < 1) return no(-4);
        if (k > 4 || n > 60) return no(-6);
        if (noSuchPlaces(k)) return no(-3);
        if (place < 1 || place > k) return no(-1);
        playGame(k, n);
        return (int) placesTaken.stream().filter(p -> p == place).count();
    }

    int summer(int p, int n) {
        if (!hides(p)) return no(-1);
        if (n < 1) return no(-4);
        if (n > 30) return no(-6);
        int sum = 0;
        for (int i = 0; i < n; i++) sum += covered(p, 0, 1, s.times[p] + i);
        return sum;
    }

    int odds(int p, int n, int part) {
        if (!hides(p)) return no(-1);
        if (part != 0 && part != 1) return no(-2);
        if (n < 0) return no(-4);
        if (n > 4) return no(-6);
        // The power of a fraction in least terms is in least terms.
        int base = fraction(covered(p, 0, 1, s.times[p]), 100, part);
        return (int) Math.round(Math.pow(base, n));
    }

    int bestOrder(int k, int m, int seed, int i) {
        if (k < 1 || m < 1 || i < -1) return no(-4);
        if (k > 4 || m > 5) return no(-6);
        if (noSuchPlaces(k)) return no(-3);
        if (i >= k) return -9;
        int most = -1;
        List<Integer> best = null;
        for (List<Integer> order : orders(k)) {
            int sum = 0;
            for (int r = 0; r < m; r++) sum += play(seed + r, order, s.settings[3]).many("FOUND");
            if (sum > most) {
                most = sum;
                best = order;
            }
        }
        return i == -1 ? most : best.get(i);
    }

    int bestRule(int m, int seed) {
        if (m < 1) return no(-4);
        if (m > 5) return no(-6);
        int[] sums = new int[5];
        for (int rule = 0; rule < 5; rule++) {
            for (int r = 0; r < m; r++) sums[rule] += play(seed + r, s.order, rule).many("FOUND");
        }
        int least = Arrays.stream(sums).min().getAsInt();
        for (int rule = 0; ; rule++) if (sums[rule] == least) return rule;
    }

    int row(int v) {
        if (v < 0) return no(-4);
        if (v > 9 || row.size() == 8) return no(-6);
        row.add(v);
        return row.size();
    }

    int judge() {
        if (s.latest == null) return no(-3);
        List<Integer> told = row, is = s.latest.finds;
        row = new ArrayList<>();
        if (told.equals(is)) return -9;
        for (int i = 0; ; i++) {
            if (i >= told.size() || i >= is.size() || !told.get(i).equals(is.get(i))) return i;
        }
    }

    int image() {
        image = s.copy();
        return s.spots.size();
    }

    int on() {
        if (image == null) return no(-3);
        s = image.copy();
        return s.spots.size();
    }

    int count(int what) {
        if (what >= 11 && what <= 16) return refusals[what];
        return switch (what) {
            case 0 -> s.spots.size();
            case 1 -> s.ways.size();
            case 2 -> s.children.size();
            case 3 -> Arrays.stream(s.times).sum();
            case 4 -> s.order.size();
            case 5 -> row.size();
            case 6 -> tape.length();
            case 7 -> s.played;
            default -> -9;
        };
    }
}
