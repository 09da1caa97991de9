import java.util.Arrays;

/**
 * A rain office: gauges on a land of squares tell each day's rain. What they tell is doubted by
 * rules, mended by neighbours, spread over days, parted among squares and summed up for valleys.
 */
public final class RainOffice {
    public static final int NONE = -1;
    public static final int WRONG = -2;

    private static final int FINE = 0;

    private static final int PLACES = 16;
    private static final int SIDE = 10;
    private static final int SQUARES = 100;
    private static final int DAYS = 56;
    private static final int FLOW_DAYS = 64;
    private static final int VALLEYS = 8;
    private static final int WEEKS = 8;
    private static final int WEEK_DAYS = 7;
    private static final int NEIGHBOURS = 4;

    private static final int CAN = 0;
    private static final int TIPPER = 1;
    private static final int SNOW = 2;
    private static final int STORE = 3;
    private static final int TWIN = 4;
    private static final int POST = 5;

    private static final int MOST_SIZE = 20;
    private static final int MOST_TENTHS = 5000;
    private static final int MOST_TIPS = 250;
    private static final int MOST_HANDED = 100;
    private static final int EIGHTHS = 8;

    private static final int TRUSTED_STATE = 1;
    private static final int DOUBTED_STATE = 2;
    private static final int MENDED_STATE = 3;
    private static final int SPREAD_STATE = 4;

    private static final int GREATEST = 0;
    private static final int NEAR = 1;
    private static final int WET = 2;
    private static final int PART = 3;
    private static final int UNIT = 4;
    private static final int UNITS = 8;
    private static final int RULES = 12;
    private static final int[] RULES_AT_FIRST = {2000, 4, 10, 20, 1, 0, 0, 0, 0, 0, 0, 0};
    private static final int[] RULES_LEAST = {0, 0, 1, 0, 0, 0, 0, 0, 0, 0, 0, 0};
    private static final int[] RULES_MOST =
        {5000, 200, 5000, 100, 1000, 1000, 1000, 1000, 1000, 1000, 1000, 1000};

    private final Net net;
    private final Books books;
    private final Mender mender;
    private final Land land;
    private final Breaks breaks;

    public RainOffice() {
        net = new Net();
        books = new Books(net);
        mender = new Mender(net);
        land = new Land(net);
        breaks = new Breaks(net);
    }

    // ---- the net and its readings ----

    public int put(int p, int kind, int x, int y, int size) {
        if (!isPlace(p) || kind < CAN || kind > POST || !isSquare(x, y)) {
            return NONE;
        }
        if (hasSize(kind) && (size < 1 || size > MOST_SIZE)) {
            return NONE;
        }
        Place place = net.places[p];
        if (place.kind != NONE) {
            return NONE;
        }
        place.bring(kind, x, y, hasSize(kind) ? size : 0, kind == POST ? 0 : net.today);
        net.changes++;
        return p;
    }

    public int lift(int p) {
        if (!isPlace(p) || net.places[p].kind == NONE) {
            return NONE;
        }
        int kind = net.places[p].kind;
        net.places[p].clear();
        net.changes++;
        return kind;
    }

    public int look(int p, int what) {
        if (!isPlace(p) || net.places[p].kind == NONE) {
            return NONE;
        }
        Place place = net.places[p];
        switch (what) {
            case 0: return place.kind;
            case 1: return place.x;
            case 2: return place.y;
            case 3: return place.size;
            case 4: return place.first;
            case 5: return place.lying;
            default: return NONE;
        }
    }

    public int read(int p, int v) {
        int fault = gaugeFault(p);
        if (fault != FINE) {
            return fault;
        }
        Place gauge = net.places[p];
        int most = hasSize(gauge.kind) ? MOST_TIPS : MOST_TENTHS;
        if (v < 0 || v > most || !isDay(net.today)) {
            return NONE;
        }
        gauge.reading[net.today] = v;
        if (gauge.kind == SNOW) {
            gauge.lying += v;
        }
        net.changes++;
        return 1;
    }

    public int full(int p, int v) {
        int fault = kindFault(p, TIPPER);
        return fault != FINE ? fault : noteSecond(p, v, EIGHTHS - 1);
    }

    public int melt(int p, int v) {
        int fault = kindFault(p, SNOW);
        if (fault != FINE) {
            return fault;
        }
        if (v < 1 || v > MOST_TENTHS) {
            return NONE;
        }
        int lying = net.places[p].meltAway(net.today, v);
        if (lying != NONE) {
            net.changes++;
        }
        return lying;
    }

    public int other(int p, int v) {
        int fault = kindFault(p, TWIN);
        return fault != FINE ? fault : noteSecond(p, v, MOST_TIPS);
    }

    public int hand(int p, int day, int v) {
        int fault = dailyGaugeFault(p);
        if (fault != FINE) {
            return fault;
        }
        Place gauge = net.places[p];
        if (v < NONE || v > MOST_TENTHS || !isDay(day) || day < gauge.first || day > net.today) {
            return NONE;
        }
        int entry = net.log.append(v, net.today, gauge.handed[day]);
        if (entry == NONE) {
            return NONE;
        }
        gauge.handed[day] = entry;
        net.changes++;
        return entry + 1;
    }

    public int close() {
        if (net.today >= DAYS) {
            return NONE;
        }
        net.today++;
        return net.today;
    }

    public int today() {
        return net.today;
    }

    public boolean set(int what, int v) {
        if (what < 0 || what >= RULES || v < RULES_LEAST[what] || v > RULES_MOST[what]) {
            return false;
        }
        net.rules[what] = v;
        net.changes++;
        return true;
    }

    // ---- the numbers of the days ----

    public int raw(int p, int day) {
        int fault = gaugeDayFault(p, day);
        return fault != FINE ? fault : net.numberKnown(p, day, DAYS);
    }

    public int known(int p, int day, int then) {
        int fault = gaugeDayFault(p, day);
        return fault != FINE ? fault : net.numberKnown(p, day, then);
    }

    public int why(int p, int day) {
        int fault = gaugeDayFault(p, day);
        return fault != FINE ? fault : openBooks().doubtOf(p, day);
    }

    public int state(int p, int day) {
        int fault = gaugeDayFault(p, day);
        if (fault != FINE) {
            return fault;
        }
        Books open = openBooks();
        if (open.toldOf(p, day) != NONE) {
            return net.places[p].kind == STORE ? SPREAD_STATE : TRUSTED_STATE;
        }
        if (mender.gather(open, p, day) > 0) {
            return MENDED_STATE;
        }
        return open.doubtOf(p, day) == 0 ? 0 : DOUBTED_STATE;
    }

    public int number(int p, int day) {
        int fault = gaugeDayFault(p, day);
        if (fault != FINE) {
            return fault;
        }
        Books open = openBooks();
        int told = open.toldOf(p, day);
        if (told != NONE) {
            return told;
        }
        int mended = mender.mend(open, p, day);
        return mended != NONE ? mended : net.numberKnown(p, day, DAYS);
    }

    public int from(int p, int day, int i) {
        int fault = dailyGaugeFault(p);
        if (fault != FINE) {
            return fault;
        }
        mender.gather(openBooks(), p, day);
        return mender.circle.placeAt(i);
    }

    // ---- squares and valleys ----

    public int part(int x, int y, int day) {
        return isSquare(x, y) ? land.ownerOf(openBooks(), x, y, day) : NONE;
    }

    public int squares(int p, int day) {
        int fault = gaugeDayFault(p, day);
        return fault != FINE ? fault : land.countOwned(openBooks(), p, day);
    }

    public int valley(int v, int x, int y, boolean in) {
        if (!isValley(v) || !isSquare(x, y)) {
            return NONE;
        }
        return land.valleys[v].change(x + y * SIDE, in);
    }

    public int rain(int v, int day) {
        return isValley(v) ? land.rainOf(openBooks(), land.valleys[v], day) : NONE;
    }

    public int mean(int v, int day) {
        if (!isValley(v)) {
            return NONE;
        }
        Valley valley = land.valleys[v];
        int sum = land.rainOf(openBooks(), valley, day);
        return sum == NONE || valley.count < 1 ? NONE : sum * 1000 / valley.count;
    }

    public long flow(int v, int day) {
        if (!isValley(v) || day < 0 || day >= FLOW_DAYS) {
            return NONE;
        }
        return land.flowOf(openBooks(), land.valleys[v], day);
    }

    public int ahead(int v, long level) {
        if (!isValley(v)) {
            return NONE;
        }
        Books open = openBooks();
        for (int day = net.today; day < FLOW_DAYS; day++) {
            if (land.flowOf(open, land.valleys[v], day) > level) {
                return day;
            }
        }
        return NONE;
    }

    // ---- weeks and breaks ----

    public int week(int p, int w, int what) {
        int fault = dailyGaugeFault(p);
        if (fault != FINE) {
            return fault;
        }
        if (w < 0 || w >= WEEKS || what < 0 || what > 1) {
            return NONE;
        }
        breaks.sumWeeks(openBooks(), p);
        return what == 0 ? breaks.own[w] : breaks.theirs[w];
    }

    public int cleft(int p) {
        int fault = dailyGaugeFault(p);
        if (fault != FINE) {
            return fault;
        }
        breaks.sumWeeks(openBooks(), p);
        return breaks.leastBreak(net.lastWholeWeek());
    }

    public long misses(int p, int w) {
        int fault = dailyGaugeFault(p);
        if (fault != FINE) {
            return fault;
        }
        if (w < 1 || w > net.lastWholeWeek()) {
            return NONE;
        }
        breaks.sumWeeks(openBooks(), p);
        return breaks.missesAt(w, net.lastWholeWeek());
    }

    // ---- what can't be ----

    private static boolean isPlace(int p) {
        return p >= 0 && p < PLACES;
    }

    private static boolean isDay(int day) {
        return day >= 0 && day < DAYS;
    }

    private static boolean isSquare(int x, int y) {
        return x >= 0 && x < SIDE && y >= 0 && y < SIDE;
    }

    private static boolean isValley(int v) {
        return v >= 0 && v < VALLEYS;
    }

    private static boolean hasSize(int kind) {
        return kind == TIPPER || kind == TWIN;
    }

    private static int squaredDistance(int x, int y, Place place) {
        return (x - place.x) * (x - place.x) + (y - place.y) * (y - place.y);
    }

    /** FINE for a GAUGE; else what a call that wants one answers. */
    private int gaugeFault(int p) {
        if (!isPlace(p) || net.places[p].kind == NONE) {
            return NONE;
        }
        return net.places[p].kind == POST ? WRONG : FINE;
    }

    /** FINE for a GAUGE and a DAY; else what a call that wants both answers: the PLACE counts first. */
    private int gaugeDayFault(int p, int day) {
        int fault = gaugeFault(p);
        return fault == FINE && !isDay(day) ? NONE : fault;
    }

    /** FINE for a GAUGE that is no STORE; else what a call that wants one answers. */
    private int dailyGaugeFault(int p) {
        int fault = gaugeFault(p);
        return fault == FINE && net.places[p].kind == STORE ? WRONG : fault;
    }

    /** FINE for a GAUGE of this KIND; else what a call that wants one answers. */
    private int kindFault(int p, int kind) {
        int fault = gaugeFault(p);
        return fault == FINE && net.places[p].kind != kind ? WRONG : fault;
    }

    private int noteSecond(int p, int v, int most) {
        if (v < 0 || v > most || !isDay(net.today)) {
            return NONE;
        }
        net.places[p].second[net.today] = v;
        net.changes++;
        return 1;
    }

    private Books openBooks() {
        if (books.written != net.changes) {
            books.rewrite();
        }
        return books;
    }

    /** What lies in a PLACE of the net: nothing (KIND is NONE), a POST, or a GAUGE with its readings. */
    private static final class Place {
        private int kind = NONE;
        private int x;
        private int y;
        private int size;
        private int first;
        private int lying;
        private final int[] reading = new int[DAYS];
        /** The second sort of readings: how FULL a TIPPER is, what MELTED on SNOW, a TWIN's OTHER. */
        private final int[] second = new int[DAYS];
        /** Of each day its latest entry in the log of what was put in BY HAND. */
        private final int[] handed = new int[DAYS];

        Place() {
            Arrays.fill(reading, NONE);
            Arrays.fill(second, NONE);
            Arrays.fill(handed, NONE);
        }

        void bring(int newKind, int newX, int newY, int newSize, int firstDay) {
            kind = newKind;
            x = newX;
            y = newY;
            size = newSize;
            first = firstDay;
        }

        void clear() {
            kind = NONE;
            lying = 0;
            Arrays.fill(reading, NONE);
            Arrays.fill(second, NONE);
            Arrays.fill(handed, NONE);
        }

        boolean isDailyGauge() {
            return kind != NONE && kind != POST && kind != STORE;
        }

        /** How much lies still; NONE, and nothing happens, where so much can't MELT. */
        int meltAway(int day, int v) {
            if (!isDay(day)) {
                return NONE;
            }
            int melted = Math.max(0, second[day]) + v;
            if (v > lying || melted > MOST_TENTHS) {
                return NONE;
            }
            lying -= v;
            second[day] = melted;
            return lying;
        }

        /** The RAW number of a day by the readings alone. */
        int numberRead(int day) {
            if (!isDay(day)) {
                return NONE;
            }
            switch (kind) {
                case CAN: return reading[day];
                case TIPPER: return numberTipped(day);
                case SNOW: return second[day] == NONE && reading[day] != NONE ? 0 : second[day];
                case TWIN: return numberTwinned(day);
                default: return NONE;
            }
        }

        private int numberTipped(int day) {
            if (!isDay(day) || reading[day] == NONE) {
                return NONE;
            }
            int tenths = reading[day] * size;
            if (day > 0 && second[day] != NONE && second[day - 1] != NONE) {
                tenths += size * (second[day] - second[day - 1]) / EIGHTHS;
            }
            return Math.max(0, tenths);
        }

        private int numberTwinned(int day) {
            if (!isDay(day) || reading[day] == NONE || second[day] == NONE) {
                return NONE;
            }
            return (reading[day] + second[day]) * size / 2;
        }

        /** Whether the two readings of a TWIN are unlike by more than so many percent of the greater. */
        boolean isUnlike(int day, int percent) {
            if (!isDay(day) || kind != TWIN || handed[day] != NONE) {
                return false;
            }
            int greater = Math.max(reading[day], second[day]);
            return Math.abs(reading[day] - second[day]) * 100 > percent * greater;
        }
    }

    /** What was put in BY HAND, in its order; each entry leads to the one before it for the same day. */
    private static final class HandLog {
        private final int[] value = new int[MOST_HANDED];
        private final int[] putInOn = new int[MOST_HANDED];
        private final int[] before = new int[MOST_HANDED];
        private int count;

        /** The new entry; NONE if the log is full. */
        int append(int v, int today, int earlier) {
            if (count >= MOST_HANDED) {
                return NONE;
            }
            value[count] = v;
            putInOn[count] = today;
            before[count] = earlier;
            count++;
            return count - 1;
        }

        /** Of an entry and those before it the latest one put in up to a day; NONE if there is none. */
        int latestUntil(int entry, int then) {
            int found = entry;
            for (int steps = 0; steps < MOST_HANDED; steps++) {
                if (found < 0 || found >= MOST_HANDED) {
                    return NONE;
                }
                if (putInOn[found] <= then) {
                    return found;
                }
                found = before[found];
            }
            return NONE;
        }
    }

    /** The PLACES, the rules as they are set, TODAY, and how often something has changed. */
    private static final class Net {
        private final Place[] places = new Place[PLACES];
        private final HandLog log = new HandLog();
        private final int[] rules = RULES_AT_FIRST.clone();
        private int today;
        private int changes;

        Net() {
            for (int p = 0; p < PLACES; p++) {
                places[p] = new Place();
            }
        }

        int rule(int what) {
            return what >= 0 && what < RULES ? rules[what] : 0;
        }

        int daysBegun() {
            return Math.min(today + 1, DAYS);
        }

        int lastWholeWeek() {
            return today / WEEK_DAYS - 1;
        }

        /** The RAW number of a day by what was read and put in up to another day. */
        int numberKnown(int p, int day, int then) {
            if (!isPlace(p) || !isDay(day)) {
                return NONE;
            }
            Place place = places[p];
            int entry = log.latestUntil(place.handed[day], then);
            if (entry >= 0 && entry < MOST_HANDED) {
                return log.value[entry];
            }
            return day <= then ? place.numberRead(day) : NONE;
        }
    }

    /** The NEAREST, up to some number, of the places that are offered. */
    private static final class Circle {
        private final int[] chosen = new int[NEIGHBOURS];
        private final int[] distances = new int[NEIGHBOURS];
        private int count;

        /** Places are offered in rising order, so that of like DISTANCES the lesser one stays ahead. */
        void offer(int p, int distance) {
            int at = count;
            while (at > 0 && distances[at - 1] > distance) {
                at--;
            }
            if (at >= NEIGHBOURS) {
                return;
            }
            count = Math.min(count + 1, NEIGHBOURS);
            for (int i = count - 1; i > at; i--) {
                chosen[i] = chosen[i - 1];
                distances[i] = distances[i - 1];
            }
            chosen[at] = p;
            distances[at] = distance;
        }

        int placeAt(int i) {
            return i >= 0 && i < count ? chosen[i] : NONE;
        }
    }

    /** Of each place and day the RAW number, the rule by which it is DOUBTED, and what is told. */
    private static final class Books {
        private final Net net;
        private final int[][] raw = new int[PLACES][DAYS];
        private final int[][] doubt = new int[PLACES][DAYS];
        private final int[][] trusted = new int[PLACES][DAYS];
        /** The TRUSTED number, and of a STORE the one that it SPREADS to the day. */
        private final int[][] told = new int[PLACES][DAYS];
        /** Of the days of a STORE's reading the rests that are left by dividing. */
        private final int[] rests = new int[DAYS];
        /** Up to which change of the net the books are written. */
        private int written;

        Books(Net net) {
            this.net = net;
            for (int p = 0; p < PLACES; p++) {
                Arrays.fill(raw[p], NONE);
                Arrays.fill(trusted[p], NONE);
                Arrays.fill(told[p], NONE);
            }
        }

        int doubtOf(int p, int day) {
            return isPlace(p) && isDay(day) ? doubt[p][day] : 0;
        }

        int trustedOf(int p, int day) {
            return isPlace(p) && isDay(day) ? trusted[p][day] : NONE;
        }

        int toldOf(int p, int day) {
            return isPlace(p) && isDay(day) ? told[p][day] : NONE;
        }

        /** Days that have not begun need no writing: nothing is read or put in for them. */
        void rewrite() {
            int days = net.daysBegun();
            for (int p = 0; p < PLACES; p++) {
                for (int day = 0; day < days; day++) {
                    raw[p][day] = net.numberKnown(p, day, DAYS);
                }
            }
            for (int p = 0; p < PLACES; p++) {
                for (int day = 0; day < days; day++) {
                    writeTrust(p, day);
                }
            }
            for (int p = 0; p < PLACES; p++) {
                if (net.places[p].kind == STORE) {
                    writeSpread(p, days);
                }
            }
            written = net.changes;
        }

        private void writeTrust(int p, int day) {
            int rule = doubtingRule(p, day);
            int number = rule == 0 ? raw[p][day] : NONE;
            doubt[p][day] = rule;
            trusted[p][day] = number;
            told[p][day] = number;
        }

        private int doubtingRule(int p, int day) {
            int number = raw[p][day];
            if (number == NONE) {
                return 0;
            }
            if (number > net.rule(GREATEST)) {
                return 1;
            }
            if (number == 0 && isDryAmongWet(p, day)) {
                return 2;
            }
            return net.places[p].isUnlike(day, net.rule(PART)) ? 3 : 0;
        }

        private boolean isDryAmongWet(int p, int day) {
            Place place = net.places[p];
            int near = net.rule(NEAR);
            int wet = net.rule(WET);
            int count = 0;
            for (int q = 0; q < PLACES; q++) {
                if (q == p || raw[q][day] == NONE
                    || squaredDistance(place.x, place.y, net.places[q]) > near) {
                    continue;
                }
                if (raw[q][day] < wet) {
                    return false;
                }
                count++;
            }
            return count >= 2;
        }

        private void writeSpread(int p, int days) {
            Place store = net.places[p];
            int since = store.first;
            for (int day = store.first; day >= 0 && day < days; day++) {
                if (store.reading[day] != NONE) {
                    spread(p, since, day);
                    since = day + 1;
                }
            }
        }

        private void spread(int p, int since, int until) {
            int v = net.places[p].reading[until];
            int q = nearestTrusted(p, since, until);
            int total = q == NONE ? 0 : sumTrusted(q, since, until);
            if (q == NONE || total <= 0) {
                for (int day = since; day <= until; day++) {
                    told[p][day] = day == until ? v : 0;
                }
                return;
            }
            int left = v;
            for (int day = since; day <= until; day++) {
                told[p][day] = v * trusted[q][day] / total;
                rests[day] = v * trusted[q][day] % total;
                left -= told[p][day];
            }
            spreadRest(p, since, until, left);
        }

        private int sumTrusted(int q, int since, int until) {
            int sum = 0;
            for (int day = since; day <= until; day++) {
                sum += trusted[q][day];
            }
            return sum;
        }

        private void spreadRest(int p, int since, int until, int left) {
            for (int i = 0; i < left; i++) {
                int best = since;
                for (int day = since + 1; day <= until; day++) {
                    if (rests[day] > rests[best]) {
                        best = day;
                    }
                }
                told[p][best]++;
                rests[best] = NONE;
            }
        }

        /** The NEAREST GAUGE that is TRUSTED on all of these days. */
        private int nearestTrusted(int p, int since, int until) {
            Place place = net.places[p];
            int best = NONE;
            int bestDistance = 0;
            for (int q = 0; q < PLACES; q++) {
                int distance = squaredDistance(place.x, place.y, net.places[q]);
                if ((best == NONE || distance < bestDistance) && isTrustedThrough(q, since, until)) {
                    best = q;
                    bestDistance = distance;
                }
            }
            return best;
        }

        private boolean isTrustedThrough(int q, int since, int until) {
            for (int day = since; day <= until; day++) {
                if (trusted[q][day] == NONE) {
                    return false;
                }
            }
            return true;
        }
    }

    /** Mends a day of a GAUGE by its neighbours. */
    private static final class Mender {
        private final Net net;
        private final Circle circle = new Circle();

        Mender(Net net) {
            this.net = net;
        }

        /** Chooses those by which a day is or would be MENDED; how many they are. */
        int gather(Books books, int p, int day) {
            circle.count = 0;
            if (!isPlace(p) || !net.places[p].isDailyGauge() || day < net.places[p].first) {
                return 0;
            }
            Place place = net.places[p];
            for (int q = 0; q < PLACES; q++) {
                if (q != p && books.trustedOf(q, day) != NONE) {
                    circle.offer(q, squaredDistance(place.x, place.y, net.places[q]));
                }
            }
            return circle.count;
        }

        /** The MENDED number; NONE if there is none to mend by. */
        int mend(Books books, int p, int day) {
            int count = gather(books, p, day);
            long sum = 0;
            long weights = 0;
            for (int i = 0; i < count && i < NEIGHBOURS; i++) {
                long weight = nearness(circle.distances[i]);
                sum += weight * thousandthsBy(books, p, circle.chosen[i], day);
                weights += weight;
            }
            return weights <= 0 ? NONE : (int) (sum / (weights * 1000));
        }

        private static int nearness(int distance) {
            return distance <= 0 ? 288 : Math.max(1, 144 / distance);
        }

        /** What one neighbour's number stands for, by how much both have told on the days that ended. */
        private long thousandthsBy(Books books, int p, int q, int day) {
            long own = 0;
            long its = 0;
            for (int past = 0; past < net.today && past < DAYS; past++) {
                int ownNumber = books.trustedOf(p, past);
                int itsNumber = books.trustedOf(q, past);
                if (ownNumber != NONE && itsNumber != NONE) {
                    own += ownNumber;
                    its += itsNumber;
                }
            }
            long thousandths = 1000L * books.trustedOf(q, day);
            return its <= 0 ? thousandths : thousandths * own / its;
        }
    }

    /** A set of squares. */
    private static final class Valley {
        private final boolean[] has = new boolean[SQUARES];
        private int count;

        int change(int square, boolean in) {
            if (square >= 0 && square < SQUARES && has[square] != in) {
                has[square] = in;
                count += in ? 1 : -1;
            }
            return count;
        }
    }

    /** The squares with the GAUGES to which they BELONG, and the VALLEYS. */
    private static final class Land {
        private final Net net;
        private final Valley[] valleys = new Valley[VALLEYS];

        Land(Net net) {
            this.net = net;
            for (int v = 0; v < VALLEYS; v++) {
                valleys[v] = new Valley();
            }
        }

        int ownerOf(Books books, int x, int y, int day) {
            int best = NONE;
            int bestDistance = 0;
            for (int p = 0; p < PLACES; p++) {
                if (books.toldOf(p, day) == NONE) {
                    continue;
                }
                int distance = squaredDistance(x, y, net.places[p]);
                if (best == NONE || distance < bestDistance) {
                    best = p;
                    bestDistance = distance;
                }
            }
            return best;
        }

        int countOwned(Books books, int p, int day) {
            int count = 0;
            if (books.toldOf(p, day) == NONE) {
                return count;
            }
            for (int square = 0; square < SQUARES; square++) {
                if (ownerOf(books, square % SIDE, square / SIDE, day) == p) {
                    count++;
                }
            }
            return count;
        }

        /** The RAIN; NONE without squares, or if no GAUGE TELLS that day. */
        int rainOf(Books books, Valley valley, int day) {
            int sum = 0;
            if (valley.count == 0) {
                return NONE;
            }
            for (int square = 0; square < SQUARES; square++) {
                if (valley.has[square]) {
                    int owner = ownerOf(books, square % SIDE, square / SIDE, day);
                    if (owner == NONE) {
                        return NONE;
                    }
                    sum += books.toldOf(owner, day);
                }
            }
            return sum;
        }

        long flowOf(Books books, Valley valley, int day) {
            long sum = 0;
            for (int k = 0; k < UNITS; k++) {
                long unit = net.rule(UNIT + k);
                if (unit != 0) {
                    sum += unit * Math.max(0, rainOf(books, valley, day - k));
                }
            }
            return sum;
        }
    }

    /** The sums of a GAUGE's weeks beside those of its neighbours, and the BREAK in them. */
    private static final class Breaks {
        private final Net net;
        private final Circle circle = new Circle();
        /** A of each week. */
        private final int[] own = new int[WEEKS];
        /** B of each week. */
        private final int[] theirs = new int[WEEKS];

        Breaks(Net net) {
            this.net = net;
        }

        void sumWeeks(Books books, int p) {
            gatherNeighbours(p);
            Arrays.fill(own, 0);
            Arrays.fill(theirs, 0);
            for (int day = 0; day < DAYS; day++) {
                int number = books.trustedOf(p, day);
                int sum = sumOfNeighbours(books, day);
                if (number != NONE && sum != NONE) {
                    own[day / WEEK_DAYS] += number;
                    theirs[day / WEEK_DAYS] += sum;
                }
            }
        }

        private void gatherNeighbours(int p) {
            circle.count = 0;
            if (!isPlace(p)) {
                return;
            }
            Place place = net.places[p];
            for (int q = 0; q < PLACES; q++) {
                if (q != p && net.places[q].isDailyGauge()) {
                    circle.offer(q, squaredDistance(place.x, place.y, net.places[q]));
                }
            }
        }

        /** NONE unless they are all TRUSTED. */
        private int sumOfNeighbours(Books books, int day) {
            int sum = 0;
            for (int i = 0; i < circle.count; i++) {
                int number = books.trustedOf(circle.placeAt(i), day);
                if (number == NONE) {
                    return NONE;
                }
                sum += number;
            }
            return sum;
        }

        int leastBreak(int last) {
            int best = NONE;
            long bestMisses = 0;
            for (int w = 1; w <= last && w < WEEKS; w++) {
                long misses = missesAt(w, last);
                if (best == NONE || misses < bestMisses) {
                    best = w;
                    bestMisses = misses;
                }
            }
            return best;
        }

        long missesAt(int w, int last) {
            return missesOfPart(0, w - 1) + missesOfPart(w, last);
        }

        private long missesOfPart(int start, int end) {
            long ownSum = 0;
            long theirSum = 0;
            for (int w = Math.max(0, start); w <= end && w < WEEKS; w++) {
                ownSum += own[w];
                theirSum += theirs[w];
            }
            if (theirSum <= 0) {
                return ownSum * 1000;
            }
            long amounts = 0;
            for (int w = Math.max(0, start); w <= end && w < WEEKS; w++) {
                amounts += Math.abs(own[w] * theirSum - theirs[w] * ownSum);
            }
            return amounts * 1000 / theirSum;
        }
    }
}
