import java.nio.charset.StandardCharsets;
import java.util.ArrayList;
import java.util.List;
import java.util.Random;

/** Random runs of calls, the class beside the model; the seeds are fixed. */
public final class RandomRunsTest {
    private static final int RUNS = 1500;
    private static final int CALLS = 250;

    private final InTheGarden x = new InTheGarden();
    private final Model m = new Model();
    private final Random random;
    private final List<String> calls = new ArrayList<>();

    private RandomRunsTest(long seed) {
        random = new Random(seed);
    }

    public static void main(String[] args) {
        int first = args.length > 0 ? Integer.parseInt(args[0]) : 0;
        for (int run = first; run < first + RUNS; run++) {
            if (!new RandomRunsTest(run).agrees(run)) {
                break;
            }
        }
        Check.end("RandomRunsTest");
    }

    private boolean agrees(int run) {
        lay();
        for (int i = 0; i < CALLS; i++) {
            if (!step()) {
                System.out.println("run " + run + ":");
                calls.subList(Math.max(0, calls.size() - 30), calls.size()).forEach(System.out::println);
                return false;
            }
        }
        return true;
    }

    private int upTo(int n) {
        return random.nextInt(n + 1);
    }

    /** Mostly 0 .. n, now and then just outside, seldom far outside. */
    private int near(int n) {
        int chance = upTo(39);
        if (chance == 0) {
            return -1 - upTo(1);
        }
        if (chance == 1) {
            return n + 1 + upTo(2);
        }
        if (chance == 2) {
            return new int[] {Integer.MIN_VALUE, Integer.MAX_VALUE, -1000, 1000, 256, 1 << 31 >>> 1}[upTo(5)];
        }
        return upTo(n);
    }

    private String statement() {
        switch (upTo(9)) {
            case 0:
            case 1:
            case 2:
                return "p" + "pksgmnhd".charAt(upTo(7)) + upTo(4) + (upTo(3) == 0 ? "00" : "" + upTo(9) + upTo(9)) + ";";
            case 3:
            case 4:
            case 5:
                return "w" + upTo(6) + upTo(6) + "," + (upTo(3) == 0 ? 1 + upTo(4) : 1 + upTo(45)) + ";";
            case 6:
            case 7:
                return "v" + upTo(6) + upTo(6) + ";";
            default:
                return "h" + (2 + upTo(13)) + "," + (1 + upTo(8)) + ";";
        }
    }

    private void give(String text) {
        byte[] bytes = text.getBytes(StandardCharsets.ISO_8859_1);
        for (int from = 0; from < bytes.length; from += 8) {
            int n = Math.min(8, bytes.length - from);
            long packed = Check.pack(bytes, from, n);
            same("feed(" + n + ", " + packed + ")", m.feed(n, packed), x.feed(n, packed));
        }
        same("garden() of " + text, m.garden(), x.garden());
    }

    /** Single statements, so that a fault of one leaves the others. */
    private void lay() {
        for (int i = upTo(40); i > 0; i--) {
            give(statement());
        }
    }

    private void giveText() {
        StringBuilder text = new StringBuilder();
        for (int i = upTo(6); i >= 0; i--) {
            String next = statement();
            if (text.length() + next.length() <= 64) {
                text.append(next);
            }
        }
        if (upTo(2) == 0) {
            int at = upTo(text.length() - 1);
            String signs = "pwvhksgmnd0123456789,;x \u00e9\u0000";
            text.setCharAt(at, signs.charAt(upTo(signs.length() - 1)));
        } else if (upTo(3) == 0) {
            text.setLength(upTo(text.length()));
        }
        give(text.toString());
    }

    private boolean same(String call, int want, int got) {
        calls.add(call + " " + got);
        Check.due(call, want, got);
        return want == got;
    }

    private boolean step() {
        int chance = upTo(99);
        if (chance < 4) {
            giveText();
            return same("count(0)", m.count(0), x.count(0));
        }
        if (chance < 30) {
            return told();
        }
        if (chance < 65) {
            return asked();
        }
        return played();
    }

    private boolean told() {
        int a = near(7), b = near(99);
        switch (upTo(9)) {
            case 0:
                int n = near(8);
                long bytes = random.nextLong();
                boolean same = same("feed(" + n + ", " + bytes + ")", m.feed(n, bytes), x.feed(n, bytes));
                return upTo(3) == 0 || !same ? same : same("garden()", m.garden(), x.garden());
            case 1:
            case 2:
                return same("times(" + a + ", " + b + ")", m.times(a, b), x.times(a, b));
            case 3:
            case 4:
            case 5:
                int v = near(new int[] {99, 50, 12, 4, 1, 300, 9, 9, 9}[Math.floorMod(a, 9)]);
                return same("set(" + a + ", " + v + ")", m.set(a, v), x.set(a, v));
            case 6:
            case 7:
            case 8:
                int many = near(8);
                long places = 0;
                for (int i = 0; i < 8; i++) {
                    places = places * 10 + 1 + upTo(upTo(9) == 0 ? 8 : Math.max(0, m.count(0) - 2));
                }
                places = upTo(30) == 0 ? -places : places;
                return same("order(" + many + ", " + places + ")", m.order(many, places), x.order(many, places));
            default:
                return upTo(2) == 0 ? same("image()", m.image(), x.image()) : same("on()", m.on(), x.on());
        }
    }

    private boolean asked() {
        int a = near(7), b = near(7), c = near(1);
        switch (upTo(13)) {
            case 0:
                return same("place(" + a + ", " + b + ")", m.place(a, b), x.place(a, b));
            case 1:
                return same("sees(" + a + ", " + b + ")", m.sees(a, b), x.sees(a, b));
            case 2:
                return same("far(" + a + ", " + b + ")", m.far(a, b), x.far(a, b));
            case 3:
                return same("hider(" + a + ", " + c + ")", m.hider(a, c), x.hider(a, c));
            case 4:
                int second = near(999), many = near(9);
                return same("cover(" + a + ", " + second + ", " + many + ")", m.cover(a, second, many), x.cover(a, second, many));
            case 5:
                return same("run(" + a + ", " + b + ")", m.run(a, b), x.run(a, b));
            case 6:
                return same("table(" + a + ", " + b + ")", m.table(a, b), x.table(a, b));
            case 7:
                return same("mayGo()", m.mayGo(), x.mayGo());
            case 8:
                return same("allSeen()", m.allSeen(), x.allSeen());
            case 9:
                return same("fewest()", m.fewest(), x.fewest());
            case 10:
                int n = near(30);
                return same("summer(" + a + ", " + n + ")", m.summer(a, n), x.summer(a, n));
            case 11:
                int looks = near(4);
                return same("odds(" + a + ", " + looks + ", " + c + ")", m.odds(a, looks, c), x.odds(a, looks, c));
            default:
                int what = near(17);
                return same("count(" + what + ")", m.count(what), x.count(what));
        }
    }

    private boolean played() {
        int z = upTo(3) == 0 ? random.nextInt() : upTo(20), a = near(7), b = near(3);
        switch (upTo(9)) {
            case 0:
                return same("round(" + z + ")", m.round(z), x.round(z));
            case 1:
            case 2:
                return same("mind(" + z + ", " + b + ")", m.mind(z, b), x.mind(z, b));
            case 3:
                return same("of(" + a + ", " + b + ")", m.of(a, b), x.of(a, b));
            case 4:
                return same("found(" + a + ")", m.found(a), x.found(a));
            case 5:
                return upTo(4) == 0 ? costly() : same("found(" + b + ")", m.found(b), x.found(b));
            case 6:
                int v = near(9);
                return same("row(" + v + ")", m.row(v), x.row(v));
            case 7:
                return upTo(1) == 0 ? same("judge()", m.judge(), x.judge()) : tellRow();
            default:
                int what = upTo(2);
                return same("of(" + a + ", " + what + ")", m.of(a, what), x.of(a, what));
        }
    }

    /** The finds as they were, cut or gone on with now and then. */
    private boolean tellRow() {
        boolean same = same("judge()", m.judge(), x.judge());
        for (int i = 0; i < 8 && same && upTo(9) > 0; i++) {
            int find = m.found(i);
            same = same("found(" + i + ")", find, x.found(i));
            if (find < 0) {
                break;
            }
            same = same && same("row(" + find + ")", m.row(find), x.row(find));
        }
        int more = upTo(8);
        return same && (upTo(3) > 0 || same("row(" + more + ")", m.row(more), x.row(more)))
                && same("judge()", m.judge(), x.judge());
    }

    private boolean costly() {
        int k = near(4), n = near(60), tries = near(5), z = random.nextInt(), i = near(4) - 1;
        switch (upTo(3)) {
            case 0:
                int what = near(1), part = near(1);
                return same("game(" + k + ", " + n + ", " + what + ", " + part + ")", m.game(k, n, what, part), x.game(k, n, what, part));
            case 1:
                int place = near(4);
                return same("taken(" + k + ", " + n + ", " + place + ")", m.taken(k, n, place), x.taken(k, n, place));
            case 2:
                return same("bestOrder(" + k + ", " + tries + ", " + z + ", " + i + ")", m.bestOrder(k, tries, z, i), x.bestOrder(k, tries, z, i));
            default:
                return same("bestRule(" + tries + ", " + z + ")", m.bestRule(tries, z), x.bestRule(tries, z));
        }
    }
}
