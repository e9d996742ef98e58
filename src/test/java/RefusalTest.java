import java.util.ArrayList;
import java.util.EnumMap;
import java.util.List;
import java.util.Map;

/**
 * REFUSALS, call by call: each number of a call is laid at the edges of its range and far outside, all
 * together; the first refusal that fits, in the order in which the document tells them, is due, and the
 * call leaves all as it was but for that one count. Calls that only ask leave all as it was, too.
 */
public final class RefusalTest {
    interface Call {
        int of(InTheGarden x, int[] numbers);
    }

    interface Due {
        /** The refusal that is due; 0, if the call is taken. */
        int of(States state, int[] numbers);
    }

    private static final int[] NONE = {};
    private static final Map<States, Look> BEFORE = new EnumMap<>(States.class);

    public static void main(String[] args) {
        for (States state : States.values()) {
            BEFORE.put(state, new Look(state.make()));
        }
        whatThereIs();
        told();
        rounds();
        sight();
        games();
        rows();
        Check.end("RefusalTest");
    }

    private static boolean out(int v, int least, int most) {
        return v < least || v > most;
    }

    /** The edges of a range, one step outside, and far outside. */
    private static int[] edges(int least, int most) {
        return new int[] {Integer.MIN_VALUE, -1000, least - 1, least, most, most + 1, 1000, Integer.MAX_VALUE};
    }

    private static List<int[]> together(int[]... edges) {
        List<int[]> all = new ArrayList<>(List.of(new int[edges.length]));
        for (int i = 0; i < edges.length; i++) {
            List<int[]> more = new ArrayList<>();
            for (int[] one : all) {
                for (int v : edges[i]) {
                    int[] next = one.clone();
                    next[i] = v;
                    more.add(next);
                }
            }
            all = more;
        }
        return all;
    }

    private static String name(String promise, States state, int[] numbers) {
        StringBuilder text = new StringBuilder(promise);
        for (int v : numbers) {
            text.append(' ').append(v);
        }
        return text.append(" (").append(state).append(')').toString();
    }

    private static int refused(InTheGarden x) {
        int sum = 0;
        for (int what = 11; what <= 16; what++) {
            sum += x.count(what);
        }
        return sum;
    }

    private static void look(String promise, States state, int[] numbers, Call call, int due) {
        InTheGarden x = state.make();
        int before = refused(x);
        int answer = call.of(x, numbers);
        String name = name(promise, state, numbers);
        if (due != 0) {
            Check.due(name, due, answer);
        }
        Check.due(name + ": refused", due == 0 ? 0 : 1, refused(x) - before);
        String other = new Look(x).otherThan(BEFORE.get(state), due);
        Check.isTrue(name + " leaves all as it was: " + other, other.isEmpty());
    }

    /** A call that changes something, if it is taken: then it is looked at only that it is not refused. */
    private static void telling(String promise, States state, Call call, Due due, int[]... edges) {
        for (int[] numbers : together(edges)) {
            int refusal = due.of(state, numbers);
            if (refusal != 0) {
                look(promise, state, numbers, call, refusal);
            } else {
                InTheGarden x = state.make();
                int before = refused(x);
                Check.isTrue(name(promise, state, numbers) + " is taken", call.of(x, numbers) >= 0);
                Check.due(name(promise, state, numbers) + " is no refusal", before, refused(x));
            }
        }
    }

    /** A call that changes nothing. */
    private static void asking(String promise, States state, Call call, Due due, int[]... edges) {
        for (int[] numbers : together(edges)) {
            look(promise, state, numbers, call, due.of(state, numbers));
        }
    }

    private static void whatThereIs() {
        for (States s : States.values()) {
            int last = s.lastPlace();
            int[] places = edges(0, last);
            int[] hiders = edges(0, s.lastHider());
            telling("2 feed", s, (x, a) -> x.feed(a[0], -1L), (t, a) -> a[0] < 1 ? -4
                    : a[0] > 8 || t == States.FULL ? -6 : 0, edges(1, 8));
            asking("4 place", s, (x, a) -> x.place(a[0], a[1]), (t, a) -> out(a[0], 0, last) ? -1
                    : out(a[1], 0, 3) ? -2 : 0, places, edges(0, 3));
            asking("5 sees", s, (x, a) -> x.sees(a[0], a[1]), (t, a) -> out(a[0], 0, last) || out(a[1], 0, last)
                    ? -1 : 0, places, places);
            asking("6 far", s, (x, a) -> x.far(a[0], a[1]), (t, a) -> out(a[0], 0, last) || out(a[1], 0, last)
                    ? -1 : 0, places, places);
            asking("7 hider", s, (x, a) -> x.hider(a[0], a[1]), (t, a) -> out(a[0], 0, s.lastHider()) ? -1
                    : out(a[1], 0, 1) ? -2 : 0, hiders, edges(0, 1));
        }
    }

    private static void told() {
        int[] least = {1, 0, 0, 0, 0, 10, 0};
        int[] most = {99, 50, 60, 4, 1, 900, 9};
        for (States s : States.values()) {
            int last = s.lastPlace();
            int[] hiding = edges(1, last);
            telling("8 times", s, (x, a) -> x.times(a[0], a[1]), (t, a) -> out(a[0], 1, last) ? -1
                    : a[1] < 0 ? -4 : a[1] > 99 ? -6 : 0, hiding, edges(0, 99));
            for (int what = 0; what < 7; what++) {
                int low = least[what];
                int high = most[what];
                telling("9 set", s, (x, a) -> x.set(a[0], a[1]), (t, a) -> a[1] < low ? -4 : a[1] > high ? -6 : 0,
                        new int[] {what}, edges(low, high));
            }
            telling("9 set", s, (x, a) -> x.set(a[0], a[1]), (t, a) -> -2,
                    new int[] {Integer.MIN_VALUE, -1, 7, 8, Integer.MAX_VALUE}, edges(0, 900));
            asking("11 cover", s, (x, a) -> x.cover(a[0], a[1], a[2]), (t, a) -> out(a[0], 1, last) ? -1
                    : a[1] < 0 || a[2] < 0 ? -4 : a[1] > 999 || a[2] > 9 ? -6 : 0,
                    hiding, edges(0, 999), edges(0, 9));
            asking("12 run", s, (x, a) -> x.run(a[0], a[1]), (t, a) -> out(a[0], 0, s.lastHider())
                    || out(a[1], 1, last) ? -1 : 0, edges(0, s.lastHider()), hiding);
            orders(s);
        }
    }

    /** The places that a number tells, the lowest digit first, so far as n goes; the rest of it is free. */
    private static void orders(States s) {
        int last = s.lastPlace();
        long[] told = {0, 1, last, last + 1, 11111111L * last, 10, 100000000L, 80000000, 9, 99999999,
            Long.MIN_VALUE, Long.MAX_VALUE, -1, -11111111, 1111111101L, 9911111111L, 11111110};
        for (long places : told) {
            telling("10 order of " + places, s, (x, a) -> x.order(a[0], places),
                    (t, a) -> a[0] < 0 ? -4 : a[0] > 8 ? -6 : told(places, a[0], last) ? 0 : -1,
                    new int[] {Integer.MIN_VALUE, -1, 0, 1, 2, 7, 8, 9, 10, Integer.MAX_VALUE});
        }
    }

    private static boolean told(long places, int n, int last) {
        String digits = "00000000" + (places < 0 ? 0 : places);
        for (int i = 1; i <= n; i++) {
            if (out(digits.charAt(digits.length() - i) - '0', 1, last)) {
                return false;
            }
        }
        return true;
    }

    private static void rounds() {
        for (States s : States.values()) {
            // In MIDDLE the last HIDER came behind the latest ROUND.
            int played = s == States.MIDDLE ? s.lastHider() - 1 : s.lastHider();
            asking("14 mind", s, (x, a) -> x.mind(a[0], a[1]), (t, a) -> out(a[1], 0, 3) ? -2 : 0,
                    new int[] {Integer.MIN_VALUE, -1, 0, Integer.MAX_VALUE}, edges(0, 3));
            asking("15 of", s, (x, a) -> x.of(a[0], a[1]), (t, a) -> out(a[0], 0, s.lastHider()) ? -1
                    : out(a[1], 0, 2) ? -2 : a[0] > played ? -3 : 0,
                    edges(0, s.lastHider()), edges(0, 2));
            asking("15 of one that was there", s, (x, a) -> x.of(a[0], a[1]), (t, a) -> out(a[0], 0, s.lastHider())
                    ? -1 : out(a[1], 0, 2) ? -2 : a[0] > played ? -3 : 0, edges(0, played), edges(0, 2));
            asking("16 found", s, (x, a) -> x.found(a[0]), (t, a) -> a[0] < 0 ? -4 : s.played() ? 0 : -3,
                    edges(0, 7));
        }
    }

    private static void sight() {
        for (States s : States.values()) {
            int last = s.lastPlace();
            asking("17 table", s, (x, a) -> x.table(a[0], a[1]), (t, a) -> out(a[0], 0, s.lastHider())
                    || out(a[1], 0, last) ? -1 : s.comesTo(a[1]) ? 0 : -3, edges(0, s.lastHider()), edges(0, last));
            asking("17 table where one can come", s, (x, a) -> x.table(a[0], a[1]), (t, a) ->
                    out(a[0], 0, s.lastHider()) || out(a[1], 0, last) ? -1 : s.comesTo(a[1]) ? 0 : -3,
                    new int[] {0}, new int[] {0, 1, 2, 3, 4, 5, 6, 7, 8});
            asking("18 mayGo", s, (x, a) -> x.mayGo(), (t, a) -> 0);
            asking("19 allSeen", s, (x, a) -> x.allSeen(), (t, a) -> 0);
            asking("20 fewest", s, (x, a) -> x.fewest(), (t, a) -> 0);
        }
    }

    private static int gameRefusal(States s, int k, int n, int mostRounds) {
        return k < 1 || n < 1 ? -4 : k > 4 || n > mostRounds ? -6 : s.comesTo(k) ? 0 : -3;
    }

    private static void games() {
        int[] parts = {Integer.MIN_VALUE, -1, 0, 1, 2, Integer.MAX_VALUE};
        int[] k = {Integer.MIN_VALUE, 0, 1, 3, 4, 5, Integer.MAX_VALUE};
        for (States s : States.values()) {
            int last = s.lastPlace();
            asking("21 game", s, (x, a) -> x.game(a[0], a[1], a[2], a[3]), (t, a) -> out(a[2], 0, 1)
                    || out(a[3], 0, 1) ? -2 : gameRefusal(s, a[0], a[1], 60),
                    k, new int[] {Integer.MIN_VALUE, 0, 1, 60, 61, Integer.MAX_VALUE}, parts, parts);
            asking("22 taken", s, (x, a) -> x.taken(a[0], a[1], a[2]), (t, a) -> {
                int refusal = gameRefusal(s, a[0], a[1], 60);
                return refusal != 0 ? refusal : out(a[2], 1, a[0]) ? -1 : 0;
            }, k, edges(1, 60), new int[] {Integer.MIN_VALUE, -1, 0, 1, 2, 3, 4, 5, Integer.MAX_VALUE});
            asking("23 summer", s, (x, a) -> x.summer(a[0], a[1]), (t, a) -> out(a[0], 1, last) ? -1
                    : a[1] < 1 ? -4 : a[1] > 30 ? -6 : 0, edges(1, last), edges(1, 30));
            asking("24 odds", s, (x, a) -> x.odds(a[0], a[1], a[2]), (t, a) -> out(a[0], 1, last) ? -1
                    : out(a[2], 0, 1) ? -2 : a[1] < 0 ? -4 : a[1] > 4 ? -6 : 0,
                    edges(1, last), edges(0, 4), parts);
            asking("25 bestOrder", s, (x, a) -> x.bestOrder(a[0], a[1], a[2], a[3]), (t, a) -> a[3] < -1 ? -4
                    : gameRefusal(s, a[0], a[1], 5), k, new int[] {Integer.MIN_VALUE, 0, 1, 5, 6, Integer.MAX_VALUE},
                    new int[] {Integer.MAX_VALUE}, new int[] {Integer.MIN_VALUE, -2, -1, 0, 3, 4, Integer.MAX_VALUE});
            asking("26 bestRule", s, (x, a) -> x.bestRule(a[0], a[1]), (t, a) -> a[0] < 1 ? -4 : a[0] > 5 ? -6 : 0,
                    edges(1, 5), new int[] {Integer.MIN_VALUE, 0, Integer.MAX_VALUE});
        }
    }

    private static void rows() {
        for (States s : States.values()) {
            telling("27 row", s, (x, a) -> x.row(a[0]), (t, a) -> a[0] < 0 ? -4
                    : a[0] > 9 || s == States.FULL ? -6 : 0, edges(0, 9));
            asking("31 count", s, (x, a) -> x.count(a[0]), (t, a) -> 0, new int[] {Integer.MIN_VALUE, -1, 0, 7, 8,
                9, 10, 11, 16, 17, Integer.MAX_VALUE});
        }
        // judge and on change something, if they are taken; the empty object refuses both.
        look("28 judge", States.EMPTY, NONE, (x, a) -> x.judge(), -3);
        look("30 on", States.EMPTY, NONE, (x, a) -> x.on(), -3);
    }
}
