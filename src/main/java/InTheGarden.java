import java.util.Arrays;

/**
 * Hide-and-seek in a garden. The document (../shared/DOC.md) tells what each call answers; the
 * words in capitals in the comments are its words.
 *
 * <p>Every row is made with the object and used again: no call makes an object.
 */
public final class InTheGarden {

    private static final int NOBODY = -1;
    private static final int OTHER = -2;
    private static final int STATE = -3;
    private static final int BELOW = -4;
    private static final int ABOVE = -6;
    private static final int NONE = -9;

    private static final int BASE = 0;
    private static final int MOST_PLACES = 8;
    private static final int MOST_WAYS = 14;
    private static final int MOST_WAY_SECONDS = 60;
    private static final int MOST_HIDERS = 8;
    private static final int LEAST_AGE = 2;
    private static final int MOST_AGE = 15;
    private static final int LEAST_PACE = 1;
    private static final int MOST_PACE = 9;
    private static final int MOST_TIMES = 99;
    private static final int MOST_TAPE = 64;
    private static final int MOST_FEED = 8;
    private static final int MOST_ORDER = 8;
    private static final int MOST_ROW = 8;
    private static final int MOST_ROW_BYTE = 9;
    private static final int MOST_COVER_SECOND = 999;
    private static final int MOST_COVER_MANY = 9;
    private static final int MOST_SUMMER = 30;
    private static final int MOST_LOOKS = 4;
    private static final int MOST_TRIED = 5;
    private static final int MOST_GAME_PLACES = 4;
    private static final int MOST_GAME_ROUNDS = 60;
    private static final int MOST_GAME_ORDERS = 24;

    private static final String KIND_LETTERS = "pksgmnhd";
    private static final int KNOWN = 1;
    private static final int SELDOM = 2;
    private static final int SHARED = 3;
    private static final int MOVED = 4;
    private static final int NEAR = 5;
    private static final int HIGH = 6;
    private static final int DUSKY = 7;
    private static final int BASE_KIND = 8;

    private static final int COUNT = 0;
    private static final int DUSK = 1;
    private static final int MARGIN = 2;
    private static final int RULE = 3;
    private static final int FREES = 4;
    private static final int PATIENCE = 5;
    private static final int LOOK = 6;
    private static final int SETTINGS = 7;
    private static final int[] SETTING_FIRST = {40, 0, 5, 0, 0, 300, 1};
    private static final int[] SETTING_LEAST = {1, 0, 0, 0, 0, 10, 0};
    private static final int[] SETTING_MOST = {99, 50, 60, 4, 1, 900, 9};
    private static final int MOST_PATIENCE = 900;

    private static final int DEEP = 1;
    private static final int OUTER = 2;
    private static final int LOTS = 3;
    private static final int FRIEND = 4;
    private static final int RULES = 5;

    private static final int FOUND = 0;
    private static final int FREE = 1;
    private static final int WON = 2;
    private static final int HIDES = 3;
    private static final int RUNS = 4;

    private static final int FORM_FAULT = -1000;
    private static final int SENSE_FAULT = -2000;
    private static final int NEVER = 0x7fffffff;
    private static final int WITHOUT_SIGN = 0x7fffffff;

    private final World now = new World();
    private final World kept = new World();
    private final Garden draft = new Garden();
    private final Told trial = new Told();
    private final Round thought = new Round();
    private final Seeker seeker = new Seeker();
    private final Reader reader = new Reader();
    private final Sight sight = new Sight();
    private final Game contest = new Game();
    private final Orders orders = new Orders();
    private final int[] bestPlaces = new int[MOST_GAME_PLACES];
    private final int[] toldFinds = new int[MOST_ROW];
    private final int[] refusals = new int[7];
    private int toldCount;
    private boolean hasImage;

    public InTheGarden() {
    }

    public int feed(int n, long bytes) {
        if (n < 1) {
            return refuse(BELOW);
        }
        if (n > MOST_FEED || reader.length + n > MOST_TAPE) {
            return refuse(ABOVE);
        }
        reader.append(n, bytes);
        return reader.length;
    }

    public int garden() {
        draft.copyFrom(now.garden);
        int answer = reader.readInto(draft);
        reader.length = 0;
        if (answer > 0) {
            draft.measure();
            now.garden.copyFrom(draft);
        }
        return answer;
    }

    public int place(int place, int what) {
        Garden garden = now.garden;
        if (!garden.isPlace(place)) {
            return refuse(NOBODY);
        }
        switch (what) {
            case 0:
                return garden.kind[place];
            case 1:
                return garden.room[place];
            case 2:
                return garden.hidden[place];
            case 3:
                return garden.times[place];
            default:
                return refuse(OTHER);
        }
    }

    public int sees(int from, int to) {
        Garden garden = now.garden;
        if (!garden.isPlace(from) || !garden.isPlace(to)) {
            return refuse(NOBODY);
        }
        return hasBit(garden.views[from], to) ? 1 : 0;
    }

    public int far(int from, int to) {
        Garden garden = now.garden;
        if (!garden.isPlace(from) || !garden.isPlace(to)) {
            return refuse(NOBODY);
        }
        return garden.distance(from, to);
    }

    public int hider(int hider, int what) {
        Garden garden = now.garden;
        if (!garden.isHider(hider)) {
            return refuse(NOBODY);
        }
        switch (what) {
            case 0:
                return garden.age[hider];
            case 1:
                return garden.pace[hider];
            default:
                return refuse(OTHER);
        }
    }

    public int times(int place, int v) {
        Garden garden = now.garden;
        if (!garden.isHidingPlace(place)) {
            return refuse(NOBODY);
        }
        if (v < 0) {
            return refuse(BELOW);
        }
        if (v > MOST_TIMES) {
            return refuse(ABOVE);
        }
        int was = garden.times[place];
        garden.times[place] = v;
        return was;
    }

    public int set(int what, int v) {
        if (what < 0 || what >= SETTINGS) {
            return refuse(OTHER);
        }
        if (v < SETTING_LEAST[what]) {
            return refuse(BELOW);
        }
        if (v > SETTING_MOST[what]) {
            return refuse(ABOVE);
        }
        int was = now.told.setting[what];
        now.told.setting[what] = v;
        return was;
    }

    public int order(int n, long places) {
        if (n < 0) {
            return refuse(BELOW);
        }
        if (n > MOST_ORDER) {
            return refuse(ABOVE);
        }
        long rest = places;
        for (int i = 0; i < n; i++) {
            if (!now.garden.isHidingPlace((int) (rest % 10))) {
                return refuse(NOBODY);
            }
            rest /= 10;
        }
        int was = now.told.length;
        now.told.takeDigits(n, places);
        return was;
    }

    public int cover(int place, int second, int many) {
        if (!now.garden.isHidingPlace(place)) {
            return refuse(NOBODY);
        }
        if (second < 0 || many < 0) {
            return refuse(BELOW);
        }
        if (second > MOST_COVER_SECOND || many > MOST_COVER_MANY) {
            return refuse(ABOVE);
        }
        return now.garden.coverAt(place, second, many, now.garden.times[place], now.told.setting[DUSK]);
    }

    public int run(int hider, int place) {
        if (!now.garden.isHider(hider) || !now.garden.isHidingPlace(place)) {
            return refuse(NOBODY);
        }
        return now.garden.secondsToRun(hider, place);
    }

    public int round(int z) {
        now.latest.play(now.garden, now.told, seeker, z);
        now.latest.growTimes(now.garden);
        now.played++;
        return now.latest.howMany(FOUND);
    }

    public int mind(int z, int what) {
        if (what < 0 || what > 3) {
            return refuse(OTHER);
        }
        thought.play(now.garden, now.told, seeker, z);
        switch (what) {
            case 0:
                return thought.howMany(FOUND);
            case 1:
                return thought.howMany(FREE);
            case 2:
                return thought.howMany(WON);
            default:
                return thought.lastSecond;
        }
    }

    public int of(int hider, int what) {
        if (!now.garden.isHider(hider)) {
            return refuse(NOBODY);
        }
        if (what < 0 || what > 2) {
            return refuse(OTHER);
        }
        if (now.played == 0 || hider >= now.latest.hiders) {
            return refuse(STATE);
        }
        switch (what) {
            case 0:
                return now.latest.spot[hider];
            case 1:
                return now.latest.state[hider];
            default:
                return now.latest.when[hider];
        }
    }

    public int found(int i) {
        if (i < 0) {
            return refuse(BELOW);
        }
        if (now.played == 0) {
            return refuse(STATE);
        }
        return i < now.latest.findCount ? now.latest.foundOnes[i] : NONE;
    }

    public int table(int hider, int place) {
        Garden garden = now.garden;
        if (!garden.isHider(hider) || !garden.isPlace(place)) {
            return refuse(NOBODY);
        }
        int back = garden.distance(place, BASE);
        if (back == NONE) {
            return refuse(STATE);
        }
        int margin = now.told.setting[MARGIN];
        int bits = 0;
        for (int from = 1; from < garden.places; from++) {
            if (garden.wouldRun(hider, from, margin, back)) {
                bits |= 1 << from;
            }
        }
        return bits;
    }

    public int mayGo() {
        int best = BASE;
        for (int place = 1; place < now.garden.places; place++) {
            int off = now.garden.distance(place, BASE);
            if (off > now.garden.distance(best, BASE) && nobodyRuns(place, off)) {
                best = place;
            }
        }
        return best;
    }

    public int allSeen() {
        return sight.leastWay(now.garden);
    }

    public int fewest() {
        return sight.fewestPlaces(now.garden);
    }

    public int game(int k, int n, int what, int part) {
        if (what < 0 || what > 1 || part < 0 || part > 1) {
            return refuse(OTHER);
        }
        int refusal = refusalOfGame(k, n, MOST_GAME_ROUNDS);
        if (refusal != 0) {
            return refuse(refusal);
        }
        contest.play(now.garden, orders, k, n);
        int sum = what == 0 ? contest.leastOverOrders() : contest.greatestOverPlaces();
        return inLeastTerms(sum, n, part);
    }

    public int taken(int k, int n, int place) {
        int refusal = refusalOfGame(k, n, MOST_GAME_ROUNDS);
        if (refusal != 0) {
            return refuse(refusal);
        }
        if (place < 1 || place > k) {
            return refuse(NOBODY);
        }
        contest.play(now.garden, orders, k, n);
        return contest.takenPlaces[place - 1];
    }

    public int summer(int place, int n) {
        Garden garden = now.garden;
        if (!garden.isHidingPlace(place)) {
            return refuse(NOBODY);
        }
        if (n < 1) {
            return refuse(BELOW);
        }
        if (n > MOST_SUMMER) {
            return refuse(ABOVE);
        }
        int sum = 0;
        for (int i = 0; i < n; i++) {
            int finds = Math.min(MOST_TIMES, garden.times[place] + i);
            sum += garden.coverAt(place, 0, 1, finds, now.told.setting[DUSK]);
        }
        return sum;
    }

    public int odds(int place, int n, int part) {
        Garden garden = now.garden;
        if (!garden.isHidingPlace(place)) {
            return refuse(NOBODY);
        }
        if (part < 0 || part > 1) {
            return refuse(OTHER);
        }
        if (n < 0) {
            return refuse(BELOW);
        }
        if (n > MOST_LOOKS) {
            return refuse(ABOVE);
        }
        int cover = garden.coverAt(place, 0, 1, garden.times[place], now.told.setting[DUSK]);
        int above = 1;
        int below = 1;
        for (int i = 0; i < n; i++) {
            above *= cover;
            below *= 100;
        }
        return inLeastTerms(above, below, part);
    }

    public int bestOrder(int k, int m, int z, int i) {
        if (i < -1) {
            return refuse(BELOW);
        }
        int refusal = refusalOfGame(k, m, MOST_TRIED);
        if (refusal != 0) {
            return refuse(refusal);
        }
        if (i >= k) {
            return NONE;
        }
        trial.copyFrom(now.told);
        orders.begin(k);
        int most = -1;
        for (int tried = 0; tried < MOST_GAME_ORDERS; tried++) {
            trial.takeRow(orders.row, k);
            int found = findsOfTrial(m, z);
            if (found > most) {
                most = found;
                System.arraycopy(orders.row, 0, bestPlaces, 0, MOST_GAME_PLACES);
            }
            if (!orders.advance()) {
                break;
            }
        }
        return i < 0 ? most : bestPlaces[i];
    }

    public int bestRule(int m, int z) {
        if (m < 1) {
            return refuse(BELOW);
        }
        if (m > MOST_TRIED) {
            return refuse(ABOVE);
        }
        trial.copyFrom(now.told);
        int best = 0;
        int least = NEVER;
        for (int rule = 0; rule < RULES; rule++) {
            trial.setting[RULE] = rule;
            int found = findsOfTrial(m, z);
            if (found < least) {
                least = found;
                best = rule;
            }
        }
        return best;
    }

    public int row(int v) {
        if (v < 0) {
            return refuse(BELOW);
        }
        if (v > MOST_ROW_BYTE || toldCount >= MOST_ROW) {
            return refuse(ABOVE);
        }
        toldFinds[toldCount] = v;
        toldCount++;
        return toldCount;
    }

    public int judge() {
        if (now.played == 0) {
            return refuse(STATE);
        }
        int told = toldCount;
        toldCount = 0;
        int both = Math.min(told, now.latest.findCount);
        for (int i = 0; i < both; i++) {
            if (toldFinds[i] != now.latest.foundOnes[i]) {
                return i;
            }
        }
        return told == now.latest.findCount ? NONE : both;
    }

    public int image() {
        kept.copyFrom(now);
        hasImage = true;
        return now.garden.places;
    }

    public int on() {
        if (!hasImage) {
            return refuse(STATE);
        }
        now.copyFrom(kept);
        return now.garden.places;
    }

    public int count(int what) {
        switch (what) {
            case 0:
                return now.garden.places;
            case 1:
                return now.garden.ways;
            case 2:
                return now.garden.hiders;
            case 3:
                return now.garden.allTimes();
            case 4:
                return now.told.length;
            case 5:
                return toldCount;
            case 6:
                return reader.length;
            case 7:
                return now.played;
            default:
                return what >= 11 && what <= 16 ? refusals[what - 10] : NONE;
        }
    }

    private int refuse(int refusal) {
        refusals[-refusal]++;
        return refusal;
    }

    /** GAME and BEST ORDER ask for the same PLACES; the document tells BELOW, ABOVE, STATE in this order. */
    private int refusalOfGame(int k, int n, int mostRounds) {
        if (k < 1 || n < 1) {
            return BELOW;
        }
        if (k > MOST_GAME_PLACES || n > mostRounds) {
            return ABOVE;
        }
        return now.garden.canComeToFirst(k) ? 0 : STATE;
    }

    private boolean nobodyRuns(int seekerAt, int back) {
        Garden garden = now.garden;
        int margin = now.told.setting[MARGIN];
        for (int place = 1; place < garden.places; place++) {
            if (place == seekerAt || garden.room[place] == 0) {
                continue;
            }
            for (int hider = 0; hider < garden.hiders; hider++) {
                if (garden.wouldRun(hider, place, margin, back)) {
                    return false;
                }
            }
        }
        return true;
    }

    private int findsOfTrial(int m, int z) {
        int found = 0;
        for (int i = 0; i < m; i++) {
            thought.play(now.garden, trial, seeker, z + i);
            found += thought.howMany(FOUND);
        }
        return found;
    }

    private static boolean hasBit(int bits, int bit) {
        return (bits >> bit & 1) == 1;
    }

    private static int inLeastTerms(int above, int below, int part) {
        int divisor = greatestCommon(above, below);
        if (divisor == 0) {
            return 0;
        }
        return (part == 0 ? above : below) / divisor;
    }

    private static int greatestCommon(int one, int other) {
        int a = one;
        int b = other;
        // Euclid needs at most some 45 steps for ints.
        for (int step = 0; step < 64 && b != 0; step++) {
            int rest = a % b;
            a = b;
            b = rest;
        }
        return a;
    }

    /** All that THE IMAGE holds. */
    private static final class World {
        final Garden garden = new Garden();
        final Told told = new Told();
        final Round latest = new Round();
        int played;

        World() {
        }

        void copyFrom(World other) {
            garden.copyFrom(other.garden);
            told.copyFrom(other.told);
            latest.copyFrom(other.latest);
            played = other.played;
        }
    }

    /** SETTINGS and the ORDER: what a ROUND in mind may try otherwise than it is told. */
    private static final class Told {
        final int[] setting = new int[SETTINGS];
        final int[] places = new int[MOST_ORDER];
        int length;

        Told() {
            System.arraycopy(SETTING_FIRST, 0, setting, 0, SETTINGS);
        }

        void copyFrom(Told other) {
            System.arraycopy(other.setting, 0, setting, 0, SETTINGS);
            System.arraycopy(other.places, 0, places, 0, MOST_ORDER);
            length = other.length;
        }

        void takeDigits(int n, long digits) {
            long rest = digits;
            length = Math.min(n, MOST_ORDER);
            for (int i = 0; i < length; i++) {
                places[i] = (int) (rest % 10);
                rest /= 10;
            }
        }

        void takeRow(int[] row, int k) {
            length = Math.min(k, MOST_GAME_PLACES);
            System.arraycopy(row, 0, places, 0, length);
        }
    }

    /** PLACES, WAYS, what is SEEN, HIDERS and TIMES; rows of two PLACES are laid out flat. */
    private static final class Garden {
        int places = 1;
        int ways;
        int hiders;
        final int[] kind = new int[MOST_PLACES];
        final int[] room = new int[MOST_PLACES];
        final int[] hidden = new int[MOST_PLACES];
        final int[] times = new int[MOST_PLACES];
        final int[] views = new int[MOST_PLACES];
        final int[] age = new int[MOST_HIDERS];
        final int[] pace = new int[MOST_HIDERS];
        final int[] way = new int[MOST_PLACES * MOST_PLACES];
        final int[] far = new int[MOST_PLACES * MOST_PLACES];
        final int[] walk = new int[MOST_HIDERS * MOST_PLACES];
        final int[] flight = new int[MOST_HIDERS * MOST_PLACES];

        Garden() {
            kind[BASE] = BASE_KIND;
            views[BASE] = 1;
            measure();
        }

        void copyFrom(Garden other) {
            places = other.places;
            ways = other.ways;
            hiders = other.hiders;
            System.arraycopy(other.kind, 0, kind, 0, MOST_PLACES);
            System.arraycopy(other.room, 0, room, 0, MOST_PLACES);
            System.arraycopy(other.hidden, 0, hidden, 0, MOST_PLACES);
            System.arraycopy(other.times, 0, times, 0, MOST_PLACES);
            System.arraycopy(other.views, 0, views, 0, MOST_PLACES);
            System.arraycopy(other.age, 0, age, 0, MOST_HIDERS);
            System.arraycopy(other.pace, 0, pace, 0, MOST_HIDERS);
            System.arraycopy(other.way, 0, way, 0, MOST_PLACES * MOST_PLACES);
            System.arraycopy(other.far, 0, far, 0, MOST_PLACES * MOST_PLACES);
            System.arraycopy(other.walk, 0, walk, 0, MOST_HIDERS * MOST_PLACES);
            System.arraycopy(other.flight, 0, flight, 0, MOST_HIDERS * MOST_PLACES);
        }

        boolean isPlace(int place) {
            return place >= 0 && place < places;
        }

        boolean isHidingPlace(int place) {
            return place > BASE && place < places;
        }

        boolean isHider(int hider) {
            return hider >= 0 && hider < hiders;
        }

        boolean addPlace(int kindNumber, int roomThere, int hiddenThere) {
            if (places >= MOST_PLACES) {
                return false;
            }
            kind[places] = kindNumber;
            room[places] = roomThere;
            hidden[places] = hiddenThere;
            times[places] = 0;
            views[places] = 1 << places;
            places++;
            return true;
        }

        boolean addWay(int one, int other, int seconds) {
            if (ways >= MOST_WAYS || !isPlace(one) || !isPlace(other) || one == other) {
                return false;
            }
            if (seconds < 1 || seconds > MOST_WAY_SECONDS || wayBetween(one, other) != 0) {
                return false;
            }
            way[one * MOST_PLACES + other] = seconds;
            way[other * MOST_PLACES + one] = seconds;
            ways++;
            return true;
        }

        boolean addView(int from, int to) {
            // A PLACE sees itself from the start, so one told of itself is refused as one told twice.
            if (!isPlace(from) || !isPlace(to) || hasBit(views[from], to)) {
                return false;
            }
            views[from] |= 1 << to;
            return true;
        }

        boolean addHider(int years, int speed) {
            if (hiders >= MOST_HIDERS || years < LEAST_AGE || years > MOST_AGE) {
                return false;
            }
            if (speed < LEAST_PACE || speed > MOST_PACE) {
                return false;
            }
            age[hiders] = years;
            pace[hiders] = speed;
            hiders++;
            return true;
        }

        /** FAR and RUN are asked for far more often than the GARDEN grows, so they are kept for all. */
        void measure() {
            measureWays();
            for (int hider = 0; hider < hiders; hider++) {
                measureRuns(hider);
            }
        }

        private void measureWays() {
            for (int one = 0; one < MOST_PLACES; one++) {
                for (int other = 0; other < MOST_PLACES; other++) {
                    int seconds = way[one * MOST_PLACES + other];
                    far[one * MOST_PLACES + other] = one == other ? 0 : seconds > 0 ? seconds : NONE;
                }
            }
            for (int via = 0; via < MOST_PLACES; via++) {
                for (int one = 0; one < MOST_PLACES; one++) {
                    shortenFrom(one, via);
                }
            }
        }

        private void shortenFrom(int one, int via) {
            int first = far[one * MOST_PLACES + via];
            if (first == NONE) {
                return;
            }
            for (int other = 0; other < MOST_PLACES; other++) {
                int second = far[via * MOST_PLACES + other];
                int known = far[one * MOST_PLACES + other];
                if (second != NONE && (known == NONE || first + second < known)) {
                    far[one * MOST_PLACES + other] = first + second;
                }
            }
        }

        private void measureRuns(int hider) {
            for (int place = 0; place < places; place++) {
                int off = far[place * MOST_PLACES + BASE];
                int seconds = off == NONE ? NONE : off * 10 / (pace[hider] + 5);
                int leaving = kind[place] == HIGH ? 5 : 0;
                walk[hider * MOST_PLACES + place] = seconds;
                flight[hider * MOST_PLACES + place] = off == NONE ? NONE : Math.max(1, leaving + seconds);
            }
        }

        int wayBetween(int one, int other) {
            return one >= 0 && one < places && other >= 0 && other < places
                    ? way[one * MOST_PLACES + other] : 0;
        }

        int distance(int one, int other) {
            return one >= 0 && one < places && other >= 0 && other < places
                    ? far[one * MOST_PLACES + other] : NONE;
        }

        boolean canComeToFirst(int k) {
            for (int place = 1; place <= k; place++) {
                if (distance(BASE, place) == NONE) {
                    return false;
                }
            }
            return true;
        }

        /** The PLACE to which a least way goes on; where she is, if there is none. */
        int nextOn(int at, int target) {
            int left = distance(at, target);
            for (int next = 0; next < places; next++) {
                int seconds = wayBetween(at, next);
                int behind = distance(next, target);
                if (seconds > 0 && behind != NONE && seconds + behind == left) {
                    return next;
                }
            }
            return at;
        }

        int coverAt(int place, int second, int many, int finds, int dusk) {
            int cover = hidden[place];
            switch (kind[place]) {
                case KNOWN:
                    cover -= 5 * finds;
                    break;
                case NEAR:
                    cover -= 5 * finds + 5;
                    break;
                case SELDOM:
                    cover += 10;
                    break;
                case DUSKY:
                    cover += 10 + dusk;
                    break;
                case SHARED:
                    cover = many >= 2 ? cover / 2 : cover;
                    break;
                case MOVED:
                    cover = second % 2 == 0 ? cover : cover / 2;
                    break;
                default:
                    break;
            }
            return Math.max(0, Math.min(99, cover));
        }

        /** How long a HIDER needs to a PLACE from THE BASE as all count; NONE. */
        int secondsToWalk(int hider, int place) {
            return hider >= 0 && hider < hiders && place >= 0 && place < places
                    ? walk[hider * MOST_PLACES + place] : NONE;
        }

        int secondsToRun(int hider, int place) {
            return hider >= 0 && hider < hiders && place >= 0 && place < places
                    ? flight[hider * MOST_PLACES + place] : NONE;
        }

        boolean wouldRun(int hider, int place, int margin, int back) {
            int seconds = secondsToRun(hider, place);
            return seconds != NONE && seconds + margin < back;
        }

        int allTimes() {
            int sum = 0;
            for (int place = 0; place < places; place++) {
                sum += times[place];
            }
            return sum;
        }
    }

    /** THE TAPE and how it is read. */
    private static final class Reader {
        // The parts of a STATEMENT behind its letter: K a KIND's letter, D one digit, T two, N one or two.
        private static final String PLACE_FORM = "KDT;";
        private static final String WAY_FORM = "DD,N;";
        private static final String VIEW_FORM = "DD;";
        private static final String HIDER_FORM = "N,D;";

        final int[] tape = new int[MOST_TAPE];
        final int[] value = new int[3];
        int length;
        int at;

        Reader() {
        }

        void append(int n, long bytes) {
            for (int i = 0; i < n && length < MOST_TAPE; i++) {
                tape[length] = (int) (bytes >>> (8 * i) & 255);
                length++;
            }
        }

        /** Two passes: a fault of form anywhere goes ahead of every fault of sense. */
        int readInto(Garden garden) {
            int statements = countStatements();
            at = 0;
            for (int i = 0; i < statements; i++) {
                int start = at;
                int letter = sign();
                if (!readStatement() || !tell(letter, garden)) {
                    return SENSE_FAULT - start;
                }
            }
            return statements;
        }

        private int countStatements() {
            at = 0;
            int statements = 0;
            // The first one is read from an empty tape, too: at least one STATEMENT must be there.
            while (statements == 0 || at < length && statements < MOST_TAPE) {
                if (!readStatement()) {
                    return FORM_FAULT - at;
                }
                statements++;
            }
            return statements;
        }

        /** The byte to be read next; -1 at the end. */
        private int sign() {
            return at < length && at < MOST_TAPE ? tape[at] : -1;
        }

        /** If it answers no, it stands at the byte that does not fit. */
        private boolean readStatement() {
            String form = formOf(sign());
            if (form.isEmpty()) {
                return false;
            }
            at++;
            int slot = 0;
            for (int i = 0; i < form.length(); i++) {
                char part = form.charAt(i);
                boolean isMark = part == ',' || part == ';';
                if (!(isMark ? readMark(part) : readValue(part, slot))) {
                    return false;
                }
                slot += isMark ? 0 : 1;
            }
            return true;
        }

        private static String formOf(int letter) {
            switch (letter) {
                case 'p':
                    return PLACE_FORM;
                case 'w':
                    return WAY_FORM;
                case 'v':
                    return VIEW_FORM;
                case 'h':
                    return HIDER_FORM;
                default:
                    return "";
            }
        }

        private boolean readMark(char mark) {
            if (sign() != mark) {
                return false;
            }
            at++;
            return true;
        }

        private boolean readValue(char part, int slot) {
            switch (part) {
                case 'K':
                    return readKind(slot);
                case 'D':
                    return readNumber(1, 1, slot);
                case 'T':
                    return readNumber(2, 2, slot);
                default:
                    return readNumber(1, 2, slot);
            }
        }

        private boolean readKind(int slot) {
            int letter = sign();
            int kindNumber = letter < 0 ? -1 : KIND_LETTERS.indexOf((char) letter);
            if (kindNumber < 0) {
                return false;
            }
            keep(slot, kindNumber);
            at++;
            return true;
        }

        private boolean readNumber(int leastDigits, int mostDigits, int slot) {
            int number = 0;
            int digits = 0;
            while (digits < mostDigits && sign() >= '0' && sign() <= '9') {
                number = number * 10 + sign() - '0';
                at++;
                digits++;
            }
            keep(slot, number);
            return digits >= leastDigits;
        }

        private void keep(int slot, int number) {
            if (slot >= 0 && slot < 3) {
                value[slot] = number;
            }
        }

        private boolean tell(int letter, Garden garden) {
            switch (letter) {
                case 'p':
                    return garden.addPlace(value[0], value[1], value[2]);
                case 'w':
                    return garden.addWay(value[0], value[1], value[2]);
                case 'v':
                    return garden.addView(value[0], value[1]);
                default:
                    return garden.addHider(value[0], value[1]);
            }
        }
    }

    /** THE SEEKER on her ORDER: she stands at a PLACE or walks a WAY to the next. */
    private static final class Seeker {
        int at;
        int next;
        int passed;
        /** The SECOND at which she comes, if she walks, or goes on, if she stands. */
        int moment;
        boolean walks;

        Seeker() {
        }

        void begin() {
            at = BASE;
            next = BASE;
            passed = 0;
            moment = 0;
            walks = false;
        }

        boolean comesAt(int second) {
            return walks && moment == second;
        }

        void come(int second, int look) {
            at = next;
            walks = false;
            moment = second + look;
        }

        boolean standsAtBase() {
            return !walks && at == BASE;
        }

        void goOnAt(int second, Garden garden, Told told) {
            if (walks || moment != second) {
                return;
            }
            next = garden.nextOn(at, nextTarget(garden, told));
            if (next == at) {
                moment = NEVER;
                return;
            }
            moment = second + garden.wayBetween(at, next);
            walks = true;
        }

        private int nextTarget(Garden garden, Told told) {
            for (; passed < told.length && passed < MOST_ORDER; passed++) {
                int place = told.places[passed];
                if (place != at && garden.distance(at, place) != NONE) {
                    return place;
                }
            }
            return BASE;
        }

        /** BACK: on a WAY she can not turn round before its end. */
        int secondsBack(int second, Garden garden) {
            if (walks) {
                return moment - second + garden.distance(next, BASE);
            }
            return garden.distance(at, BASE);
        }
    }

    /** A ROUND, as it goes and as it went. */
    private static final class Round {
        final int[] spot = new int[MOST_HIDERS];
        final int[] state = new int[MOST_HIDERS];
        /** When it ended for a HIDER; for one that runs, when it comes. */
        final int[] when = new int[MOST_HIDERS];
        final int[] foundOnes = new int[MOST_HIDERS];
        final int[] roomLeft = new int[MOST_PLACES];
        int hiders;
        int findCount;
        int lastSecond;
        /** Bits of HIDERS found where they hid: these alone make a PLACE known. */
        int lookedAt;
        int seed;

        Round() {
        }

        void copyFrom(Round other) {
            System.arraycopy(other.spot, 0, spot, 0, MOST_HIDERS);
            System.arraycopy(other.state, 0, state, 0, MOST_HIDERS);
            System.arraycopy(other.when, 0, when, 0, MOST_HIDERS);
            System.arraycopy(other.foundOnes, 0, foundOnes, 0, MOST_HIDERS);
            hiders = other.hiders;
            findCount = other.findCount;
            lastSecond = other.lastSecond;
            lookedAt = other.lookedAt;
        }

        void play(Garden garden, Told told, Seeker she, int z) {
            begin(garden, z);
            hideAll(garden, told);
            she.begin();
            int patience = Math.min(MOST_PATIENCE, told.setting[PATIENCE]);
            int second = 0;
            for (int step = 0; step <= MOST_PATIENCE; step++) {
                comeAndLook(garden, told, she, second);
                bringHome(second, she.standsAtBase(), told.setting[FREES] == 1);
                she.goOnAt(second, garden, told);
                startRuns(garden, second, told.setting[MARGIN], she.secondsBack(second, garden));
                if (second >= patience || !isOpen()) {
                    break;
                }
                second = Math.min(patience, nextMoment(she, second));
            }
            end(second);
        }

        int howMany(int wanted) {
            int many = 0;
            for (int hider = 0; hider < hiders; hider++) {
                many += state[hider] == wanted ? 1 : 0;
            }
            return many;
        }

        void growTimes(Garden garden) {
            for (int hider = 0; hider < hiders; hider++) {
                if (hasBit(lookedAt, hider)) {
                    int place = spot[hider];
                    garden.times[place] = Math.min(MOST_TIMES, garden.times[place] + 1);
                }
            }
        }

        private void begin(Garden garden, int z) {
            seed = z;
            hiders = garden.hiders;
            findCount = 0;
            lastSecond = 0;
            lookedAt = 0;
            System.arraycopy(garden.room, 0, roomLeft, 0, MOST_PLACES);
        }

        private int drawBelow(int n) {
            seed = seed * 1664525 + 1013904223;
            return n > 0 ? (seed & WITHOUT_SIGN) / 256 % n : 0;
        }

        private void hideAll(Garden garden, Told told) {
            for (int hider = 0; hider < hiders; hider++) {
                int place = choose(garden, told, hider);
                spot[hider] = place;
                if (place == BASE) {
                    find(hider, 0);
                } else {
                    state[hider] = HIDES;
                    roomLeft[place]--;
                }
            }
        }

        /** THE BASE stands for none. */
        private int choose(Garden garden, Told told, int hider) {
            int open = openPlaces(garden, told.setting[COUNT], hider);
            if (open == 0) {
                return BASE;
            }
            switch (told.setting[RULE]) {
                case DEEP:
                    return deepest(garden, open);
                case OUTER:
                    return outermost(garden, open);
                case LOTS:
                    return bitAt(open, drawBelow(Integer.bitCount(open)));
                case FRIEND:
                    boolean follows = hider > 0 && hasBit(open, spot[hider - 1]);
                    return follows ? spot[hider - 1] : bitAt(open, 0);
                default:
                    return bitAt(open, 0);
            }
        }

        private int openPlaces(Garden garden, int count, int hider) {
            int open = 0;
            for (int place = 1; place < garden.places; place++) {
                int walk = garden.secondsToWalk(hider, place);
                if (roomLeft[place] > 0 && walk != NONE && walk <= count) {
                    open |= 1 << place;
                }
            }
            return open;
        }

        private static int deepest(Garden garden, int open) {
            int best = BASE;
            for (int place = 1; place < garden.places; place++) {
                if (hasBit(open, place) && (best == BASE || garden.hidden[place] > garden.hidden[best])) {
                    best = place;
                }
            }
            return best;
        }

        private static int outermost(Garden garden, int open) {
            int best = BASE;
            for (int place = 1; place < garden.places; place++) {
                if (hasBit(open, place) && garden.distance(place, BASE) > garden.distance(best, BASE)) {
                    best = place;
                }
            }
            return best;
        }

        private static int bitAt(int bits, int index) {
            int left = index;
            for (int bit = 0; bit < MOST_PLACES; bit++) {
                if (hasBit(bits, bit)) {
                    if (left == 0) {
                        return bit;
                    }
                    left--;
                }
            }
            return BASE;
        }

        private void comeAndLook(Garden garden, Told told, Seeker she, int second) {
            if (!she.comesAt(second)) {
                return;
            }
            she.come(second, told.setting[LOOK]);
            for (int hider = 0; hider < hiders; hider++) {
                if (state[hider] == HIDES && hasBit(garden.views[she.at], spot[hider])) {
                    int cover = coverOf(garden, hider, she.at, second, told.setting[DUSK]);
                    if (drawBelow(100) >= cover) {
                        find(hider, second);
                        lookedAt |= 1 << hider;
                    }
                }
            }
        }

        private int coverOf(Garden garden, int hider, int at, int second, int dusk) {
            int place = spot[hider];
            int cover = garden.coverAt(place, second, hidingIn(place), garden.times[place], dusk);
            if (garden.age[hider] < 6) {
                cover = Math.max(0, cover - 10);
            }
            return place == at ? cover / 2 : cover;
        }

        private int hidingIn(int place) {
            int many = 0;
            for (int hider = 0; hider < hiders; hider++) {
                many += state[hider] == HIDES && spot[hider] == place ? 1 : 0;
            }
            return many;
        }

        private void find(int hider, int second) {
            state[hider] = FOUND;
            when[hider] = second;
            if (findCount < MOST_HIDERS) {
                foundOnes[findCount] = hider;
                findCount++;
            }
        }

        private void bringHome(int second, boolean guarded, boolean frees) {
            for (int hider = 0; hider < hiders; hider++) {
                if (state[hider] != RUNS || when[hider] != second) {
                    continue;
                }
                if (guarded) {
                    find(hider, second);
                } else {
                    state[hider] = FREE;
                    if (frees && !isOpen()) {
                        freeAll(second);
                    }
                }
            }
        }

        private void freeAll(int second) {
            for (int hider = 0; hider < hiders; hider++) {
                if (state[hider] == FOUND) {
                    state[hider] = FREE;
                    when[hider] = second;
                }
            }
        }

        private void startRuns(Garden garden, int second, int margin, int back) {
            for (int hider = 0; hider < hiders; hider++) {
                if (state[hider] == HIDES && garden.wouldRun(hider, spot[hider], margin, back)) {
                    state[hider] = RUNS;
                    when[hider] = second + garden.secondsToRun(hider, spot[hider]);
                }
            }
        }

        /** Whether somebody hides or runs still. */
        private boolean isOpen() {
            for (int hider = 0; hider < hiders; hider++) {
                if (state[hider] == HIDES || state[hider] == RUNS) {
                    return true;
                }
            }
            return false;
        }

        /**
         * The next SECOND at which something can happen. BACK grows only as she goes on from a
         * PLACE, so between her moments nobody begins to run and the SECONDS may be passed over.
         */
        private int nextMoment(Seeker she, int second) {
            int next = she.moment;
            for (int hider = 0; hider < hiders; hider++) {
                if (state[hider] == RUNS) {
                    next = Math.min(next, when[hider]);
                }
            }
            return Math.max(second + 1, next);
        }

        private void end(int second) {
            lastSecond = second;
            for (int hider = 0; hider < hiders; hider++) {
                if (state[hider] == HIDES || state[hider] == RUNS) {
                    state[hider] = WON;
                    when[hider] = second;
                }
            }
        }
    }

    /** Orders of PLACES 1 .. k, by numbers. */
    private static final class Orders {
        final int[] row = new int[MOST_GAME_PLACES];
        int length;

        Orders() {
        }

        void begin(int k) {
            length = Math.min(k, MOST_GAME_PLACES);
            for (int i = 0; i < length; i++) {
                row[i] = i + 1;
            }
        }

        /** To the next order; whether there is one. */
        boolean advance() {
            int rise = length - 2;
            while (rise >= 0 && row[rise] > row[rise + 1]) {
                rise--;
            }
            if (rise < 0) {
                return false;
            }
            int above = length - 1;
            while (above > rise && row[above] < row[rise]) {
                above--;
            }
            swap(rise, above);
            for (int low = rise + 1, high = length - 1; low < high; low++, high--) {
                swap(low, high);
            }
            return true;
        }

        private void swap(int one, int other) {
            int held = row[one];
            row[one] = row[other];
            row[other] = held;
        }
    }

    /** The GAME of one HIDER against all orders. */
    private static final class Game {
        final int[] tells = new int[MOST_GAME_ORDERS * MOST_GAME_PLACES];
        final int[] placeSums = new int[MOST_GAME_PLACES];
        final int[] orderSums = new int[MOST_GAME_ORDERS];
        final int[] takenPlaces = new int[MOST_GAME_PLACES];
        int placeCount;
        int orderCount;

        Game() {
        }

        void play(Garden garden, Orders orders, int k, int n) {
            placeCount = Math.min(k, MOST_GAME_PLACES);
            Arrays.fill(placeSums, 0);
            Arrays.fill(orderSums, 0);
            Arrays.fill(takenPlaces, 0);
            tellAll(garden, orders);
            for (int i = 0; i < n; i++) {
                int place = indexOfGreatest(placeSums, placeCount);
                int order = indexOfLeast(orderSums, orderCount);
                takenPlaces[place]++;
                addTells(place, order);
            }
        }

        int leastOverOrders() {
            return orderSums[indexOfLeast(orderSums, orderCount)];
        }

        int greatestOverPlaces() {
            return placeSums[indexOfGreatest(placeSums, placeCount)];
        }

        private void tellAll(Garden garden, Orders orders) {
            orders.begin(placeCount);
            orderCount = 0;
            do {
                int at = BASE;
                int seconds = 0;
                for (int i = 0; i < placeCount; i++) {
                    int place = orders.row[i];
                    seconds += garden.distance(at, place);
                    tells[orderCount * MOST_GAME_PLACES + place - 1] = seconds;
                    at = place;
                }
                orderCount++;
            } while (orderCount < MOST_GAME_ORDERS && orders.advance());
        }

        private void addTells(int place, int order) {
            for (int i = 0; i < placeCount; i++) {
                placeSums[i] += tells[order * MOST_GAME_PLACES + i];
            }
            for (int i = 0; i < orderCount; i++) {
                orderSums[i] += tells[i * MOST_GAME_PLACES + place];
            }
        }

        private static int indexOfGreatest(int[] sums, int length) {
            int best = 0;
            for (int i = 1; i < length; i++) {
                if (sums[i] > sums[best]) {
                    best = i;
                }
            }
            return best;
        }

        private static int indexOfLeast(int[] sums, int length) {
            int best = 0;
            for (int i = 1; i < length; i++) {
                if (sums[i] < sums[best]) {
                    best = i;
                }
            }
            return best;
        }
    }

    /** ALL SEEN and FEWEST, by sets of PLACES as bits. */
    private static final class Sight {
        private static final int SETS_WITH_BASE = 1 << (MOST_PLACES - 1);

        /** Least SECONDS to have come to a set (THE BASE is in each) and stand at a PLACE of it. */
        final int[] cost = new int[SETS_WITH_BASE * MOST_PLACES];

        Sight() {
        }

        int leastWay(Garden garden) {
            int wanted = seenFrom(garden, placesToCome(garden));
            Arrays.fill(cost, NONE);
            cost[BASE] = 0;
            int best = NONE;
            for (int set = 1; set < 1 << garden.places; set += 2) {
                boolean seesAll = (seenFrom(garden, set) & wanted) == wanted;
                for (int last = 0; last < garden.places; last++) {
                    int seconds = cost[slotOf(set, last)];
                    if (seconds == NONE) {
                        continue;
                    }
                    if (!seesAll) {
                        goFurther(garden, set, last, seconds);
                    } else if (best == NONE || seconds < best) {
                        best = seconds;
                    }
                }
            }
            return best;
        }

        int fewestPlaces(Garden garden) {
            int all = (1 << garden.places) - 1;
            int best = all;
            for (int set = 1; set < all; set++) {
                if (seenFrom(garden, set) == all && Integer.bitCount(set) < Integer.bitCount(best)) {
                    best = set;
                }
            }
            return best;
        }

        private void goFurther(Garden garden, int set, int last, int seconds) {
            for (int next = 1; next < garden.places; next++) {
                int step = garden.distance(last, next);
                if (hasBit(set, next) || step == NONE) {
                    continue;
                }
                int slot = slotOf(set | 1 << next, next);
                if (cost[slot] == NONE || seconds + step < cost[slot]) {
                    cost[slot] = seconds + step;
                }
            }
        }

        private static int slotOf(int set, int last) {
            return (set >> 1) * MOST_PLACES + last;
        }

        private static int placesToCome(Garden garden) {
            int bits = 0;
            for (int place = 0; place < garden.places; place++) {
                bits |= garden.distance(BASE, place) == NONE ? 0 : 1 << place;
            }
            return bits;
        }

        private static int seenFrom(Garden garden, int set) {
            int seen = 0;
            for (int place = 0; place < garden.places; place++) {
                seen |= hasBit(set, place) ? garden.views[place] : 0;
            }
            return seen;
        }
    }
}
