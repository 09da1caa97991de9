import java.util.ArrayList;
import java.util.List;

/** Calls that are refused (NONE, WRONG, false): what they answer, and that nothing has changed behind them. */
public final class RefusalsTest {
    private static final int NONE = RainOffice.NONE;
    private static final int WRONG = RainOffice.WRONG;
    private static final int CAN = 0, TIPPER = 1, SNOW = 2, STORE = 3, TWIN = 4, POST = 5;
    private static final int EMPTY = 6, FAR_CAN = 7, LAST_CAN = 15;
    private static final int LEAST = Integer.MIN_VALUE, MOST = Integer.MAX_VALUE;
    private static final int[] NO_PLACES = {-1, 16, LEAST, MOST, EMPTY};
    private static final int[] NO_DAYS = {-1, 56, LEAST, MOST};
    private static final int[] GAUGES = {CAN, TIPPER, SNOW, STORE, TWIN, FAR_CAN, LAST_CAN};
    private static final Check CHECK = new Check();

    private interface Scene { RainOffice make(); }

    private interface Call { long on(RainOffice o); }

    private interface PlaceCall { long on(RainOffice o, int p); }

    private static Scene scene;
    private static List<String> untouched;

    public static void main(String[] args) {
        enter(RefusalsTest::busyOffice);
        answersTellOfChanges();
        noPlaceOrNothing();
        wrongKinds();
        putAndLook();
        readings();
        meltsTooMuch();
        byHand();
        rules();
        days();
        squaresAndValleys();
        weeks();
        enter(RefusalsTest::freshDay);
        readings();
        enter(RefusalsTest::endedOffice);
        afterTheLastDay();
        enter(RefusalsTest::fullLog);
        hundredPutIn();
        enter(RefusalsTest::newNet);
        readings();
        nothingLies();
        enter(RainOffice::new);
        newOffice();
        CHECK.end("RefusalsTest");
    }

    // ---- the scenes ----

    /** Day 15. The places 0 .. 5 hold one thing of each KIND; each rule would show in the answers, were it another. */
    private static RainOffice busyOffice() {
        RainOffice o = new RainOffice();
        o.put(CAN, CAN, 2, 2, 0);
        o.put(TIPPER, TIPPER, 2, 4, 20);
        o.put(SNOW, SNOW, 4, 2, 0);
        o.put(STORE, STORE, 3, 3, 0);
        o.put(TWIN, TWIN, 9, 9, 20);
        o.put(POST, POST, 5, 5, 0);
        o.put(FAR_CAN, CAN, 9, 0, 0);
        o.put(LAST_CAN, CAN, 0, 9, 0);
        int[][] squares = {{0, 0, 0}, {0, 9, 9}, {0, 4, 5}, {7, 9, 0}};
        for (int[] s : squares) o.valley(s[0], s[1], s[2], true);
        o.set(5, 2);
        o.set(11, 3);
        readAll(o, 0, 1, 30, 10, 7, 5, 2001);
        o.full(TIPPER, 3);
        Scenes.closeUpTo(o, 1);
        readAll(o, 2000, 5, 12, 10, 8, 4, 9);
        o.full(TIPPER, 6);
        o.read(STORE, 77);
        Scenes.closeUpTo(o, 8);
        readAll(o, 0, 0, 9, 10, 10, 30, 8);
        Scenes.closeUpTo(o, 14);
        readAll(o, 0, 2, 9, 10, 0, 40, 60);
        o.hand(CAN, 3, 44);
        Scenes.closeUpTo(o, 15);
        o.hand(CAN, 3, 45);
        o.read(CAN, 25);
        o.read(STORE, 500);
        o.read(TWIN, 7);
        o.other(TWIN, 7);
        o.read(SNOW, 5000);
        o.melt(SNOW, 20);
        return withOpenBooks(o);
    }

    private static void readAll(RainOffice o, int can, int tips, int melts, int twin, int other, int far, int last) {
        o.read(CAN, can);
        o.read(TIPPER, tips);
        o.read(SNOW, 1000);
        o.melt(SNOW, melts);
        o.read(TWIN, twin);
        o.other(TWIN, other);
        o.read(FAR_CAN, far);
        o.read(LAST_CAN, last);
    }

    private static RainOffice endedOffice() {
        RainOffice o = busyOffice();
        Scenes.closeUpTo(o, 55);
        readAll(o, 40, 3, 20, 6, 6, 30, 10);
        o.full(TIPPER, 3);
        o.close();
        return withOpenBooks(o);
    }

    /** A day on which nothing is read yet. */
    private static RainOffice freshDay() {
        RainOffice o = busyOffice();
        o.close();
        return withOpenBooks(o);
    }

    private static RainOffice newNet() {
        RainOffice o = new RainOffice();
        for (int kind = CAN; kind <= POST; kind++) o.put(kind, kind, kind, kind, 4);
        return withOpenBooks(o);
    }

    private static RainOffice fullLog() {
        RainOffice o = newNet();
        o.read(STORE, 9);
        int[] gauges = {CAN, TIPPER, SNOW, TWIN};
        for (int i = 0; i < 100; i++) o.hand(gauges[i % 4], 0, 100 + i);
        return withOpenBooks(o);
    }

    /** A question ahead of the refused call, so that what the office keeps ready is not just made behind it. */
    private static RainOffice withOpenBooks(RainOffice o) {
        o.number(STORE, 0);
        return o;
    }

    // ---- what the office answers ----

    /** Everything that can be seen of the office; in the end by calls that change it and tell its hidden counts. */
    private static List<String> answers(RainOffice o) {
        List<String> told = new ArrayList<>();
        told.add("today " + o.today());
        for (int p = 0; p < 16; p++) told.add("kind " + p + " " + o.look(p, 0));
        for (int p : GAUGES) tellGauge(told, o, p);
        for (int what = 1; what < 6; what++) told.add("post " + what + " " + o.look(POST, what));
        tellLand(told, o);
        tellCounts(told, o);
        return told;
    }

    private static void tellGauge(List<String> told, RainOffice o, int p) {
        for (int what = 1; what < 6; what++) told.add("look " + p + " " + what + " " + o.look(p, what));
        for (int day : new int[] {0, 1, 3, 8, 14, 15, 16, 55}) {
            told.add("raw " + p + " " + day + " " + o.raw(p, day));
            told.add("why " + p + " " + day + " " + o.why(p, day));
            told.add("number " + p + " " + day + " " + o.number(p, day));
        }
        for (int day : new int[] {1, 15}) {
            told.add("state " + p + " " + day + " " + o.state(p, day));
            told.add("from " + p + " " + day + " " + o.from(p, day, 0));
            told.add("squares " + p + " " + day + " " + o.squares(p, day));
        }
        told.add("known " + p + " " + o.known(p, 3, 14));
        told.add("known now " + p + " " + o.known(p, 3, 15));
        told.add("week " + p + " " + o.week(p, 0, 0) + " " + o.week(p, 1, 1));
        told.add("misses " + p + " " + o.misses(p, 1));
    }

    private static void tellLand(List<String> told, RainOffice o) {
        for (int day = 0; day < 9; day++) told.add("flow " + day + " " + o.flow(0, day) + " " + o.flow(7, day));
        for (int v = 0; v < 8; v++) told.add("squares of " + v + " " + o.valley(v, 6, 6, false) + " " + o.rain(v, 1));
    }

    private static void tellCounts(List<String> told, RainOffice o) {
        told.add("lies " + o.melt(SNOW, 1));
        told.add("put in " + o.hand(CAN, 15, 7));
        told.add("closes " + o.close());
        told.add("full tells on " + o.full(TIPPER, 5) + o.read(TIPPER, 9) + " " + o.raw(TIPPER, o.today()));
        told.add("comes " + o.put(EMPTY, CAN, 0, 0, 0));
    }

    private static void enter(Scene next) {
        scene = next;
        untouched = answers(next.make());
    }

    private static void refused(String what, Call call, long want) {
        RainOffice o = scene.make();
        CHECK.due(what, call.on(o), want);
        List<String> told = answers(o);
        for (int i = 0; i < told.size(); i++) {
            CHECK.due("behind the refused " + what + ": " + told.get(i) + ", untouched " + untouched.get(i),
                told.get(i).equals(untouched.get(i)), true);
        }
    }

    private static void differs(String what, Call call) {
        RainOffice o = scene.make();
        call.on(o);
        CHECK.due(what + " shows in the answers", answers(o).equals(untouched), false);
    }

    /** A test of this test: what would have changed, had a call not been refused, is seen. */
    private static void answersTellOfChanges() {
        int[][] rules = {{0, 5000}, {0, 1999}, {1, 200}, {1, 3}, {2, 9}, {2, 5000}, {3, 100}, {3, 19},
            {4, 0}, {5, 1}, {6, 1}, {7, 1}, {8, 1}, {9, 1}, {10, 1}, {11, 1000}};
        for (int[] r : rules) differs("rule " + r[0] + " " + r[1], o -> o.set(r[0], r[1]) ? 1 : 0);
        for (int p : GAUGES) {
            differs("a reading of " + p, o -> o.read(p, 123));
            differs("lifting " + p, o -> o.lift(p));
        }
        differs("how full it is", o -> o.full(TIPPER, 1));
        differs("what melts", o -> o.melt(SNOW, 1));
        differs("the other reading", o -> o.other(TWIN, 9) + o.read(TWIN, 9));
        differs("what is put in", o -> o.hand(LAST_CAN, 9, NONE));
        differs("a day's end", o -> o.close());
        differs("what comes", o -> o.put(EMPTY, POST, 0, 0, 0));
        for (int v = 0; v < 8; v++) {
            int valley = v;
            differs("a square of valley " + v, o -> o.valley(valley, 1, 8, true));
        }
        differs("a square that goes", o -> o.valley(7, 9, 0, false));
    }

    // ---- places ----

    /** Every call of a PLACE, with arguments that a fitting thing there would take. */
    private static final PlaceCall[] PLACE_CALLS = {
        (o, p) -> o.lift(p), (o, p) -> o.look(p, 0), (o, p) -> o.read(p, 1), (o, p) -> o.full(p, 1),
        (o, p) -> o.melt(p, 1), (o, p) -> o.other(p, 1), (o, p) -> o.hand(p, 15, 1), (o, p) -> o.raw(p, 1),
        (o, p) -> o.known(p, 1, 1), (o, p) -> o.why(p, 1), (o, p) -> o.state(p, 1), (o, p) -> o.number(p, 1),
        (o, p) -> o.from(p, 1, 0), (o, p) -> o.squares(p, 1), (o, p) -> o.week(p, 0, 0), (o, p) -> o.cleft(p),
        (o, p) -> o.misses(p, 1)};

    /** "of nothing, or no PLACE, NONE (both ahead of what else can't be)" */
    private static void noPlaceOrNothing() {
        for (int p : NO_PLACES) {
            for (int i = 0; i < PLACE_CALLS.length; i++) {
                PlaceCall call = PLACE_CALLS[i];
                refused("call " + i + " of place " + p, o -> call.on(o, p), NONE);
            }
            refused("read what can't be of " + p, o -> o.read(p, -1), NONE);
            refused("full what can't be of " + p, o -> o.full(p, 8), NONE);
            refused("melt what can't be of " + p, o -> o.melt(p, 0), NONE);
            refused("other what can't be of " + p, o -> o.other(p, 251), NONE);
            refused("hand what can't be of " + p, o -> o.hand(p, 16, -2), NONE);
            refused("week that can't be of " + p, o -> o.week(p, 8, 2), NONE);
            refused("misses that can't be of " + p, o -> o.misses(p, 0), NONE);
        }
    }

    /** "a call of a PLACE in which something else lies than it wants answers WRONG (ahead of what else can't be)" */
    private static void wrongKinds() {
        for (int v : new int[] {1, 8, -1, LEAST, MOST}) {
            for (int p : new int[] {CAN, SNOW, STORE, TWIN, POST, LAST_CAN}) refused("full " + p, o -> o.full(p, v), WRONG);
            for (int p : new int[] {CAN, TIPPER, STORE, TWIN, POST, LAST_CAN}) refused("melt " + p, o -> o.melt(p, v), WRONG);
            for (int p : new int[] {CAN, TIPPER, SNOW, STORE, POST, LAST_CAN}) refused("other " + p, o -> o.other(p, v), WRONG);
            refused("read a post", o -> o.read(POST, v), WRONG);
        }
        for (int p : new int[] {STORE, POST}) {
            for (int day : new int[] {1, 15, 16, -1, 56}) {
                refused("hand " + p, o -> o.hand(p, day, 1), WRONG);
                refused("hand what can't be " + p, o -> o.hand(p, day, -2), WRONG);
                refused("from " + p, o -> o.from(p, day, 0), WRONG);
                refused("from that can't be " + p, o -> o.from(p, day, 4), WRONG);
            }
            for (int w : new int[] {1, 0, 2, -1, 8}) {
                refused("week " + p, o -> o.week(p, w, 0), WRONG);
                refused("week that can't be " + p, o -> o.week(p, w, 2), WRONG);
                refused("misses " + p, o -> o.misses(p, w), WRONG);
            }
            refused("cleft " + p, o -> o.cleft(p), WRONG);
        }
        for (int day : new int[] {1, 15, 16, -1, 56, LEAST, MOST}) {
            refused("raw of a post", o -> o.raw(POST, day), WRONG);
            refused("known of a post", o -> o.known(POST, day, day), WRONG);
            refused("why of a post", o -> o.why(POST, day), WRONG);
            refused("state of a post", o -> o.state(POST, day), WRONG);
            refused("number of a post", o -> o.number(POST, day), WRONG);
            refused("squares of a post", o -> o.squares(POST, day), WRONG);
        }
    }

    /** Promises 2 to 4. */
    private static void putAndLook() {
        for (int p : new int[] {-1, 16, LEAST, MOST}) refused("put in place " + p, o -> o.put(p, CAN, 1, 1, 1), NONE);
        for (int kind : new int[] {-1, 6, LEAST, MOST}) refused("put kind " + kind, o -> o.put(EMPTY, kind, 1, 1, 1), NONE);
        for (int z : new int[] {-1, 10, LEAST, MOST}) {
            refused("put on x " + z, o -> o.put(EMPTY, CAN, z, 1, 1), NONE);
            refused("put on y " + z, o -> o.put(EMPTY, CAN, 1, z, 1), NONE);
        }
        for (int kind : new int[] {TIPPER, TWIN}) {
            for (int size : new int[] {0, 21, LEAST, MOST}) {
                refused("put with size " + size, o -> o.put(EMPTY, kind, 1, 1, size), NONE);
            }
        }
        for (int p : new int[] {0, 1, 2, 3, 4, 5, 7, 15}) {
            for (int kind : new int[] {0, 1, 2, 3, 4, 5, 6}) refused("put on " + p, o -> o.put(p, kind, 1, 1, 1), NONE);
        }
        for (int what : new int[] {-1, 6, LEAST, MOST}) {
            for (int p : new int[] {CAN, SNOW, POST}) refused("look " + what, o -> o.look(p, what), NONE);
        }
    }

    /** Promises 5 to 8. */
    private static void readings() {
        for (int v : new int[] {-1, 5001, LEAST, MOST}) {
            for (int p : new int[] {CAN, SNOW, STORE, LAST_CAN}) refused("read " + v + " of " + p, o -> o.read(p, v), NONE);
        }
        for (int v : new int[] {-1, 251, LEAST, MOST}) {
            for (int p : new int[] {TIPPER, TWIN}) refused("read " + v + " of " + p, o -> o.read(p, v), NONE);
            refused("other " + v, o -> o.other(TWIN, v), NONE);
        }
        for (int v : new int[] {-1, 8, LEAST, MOST}) refused("full " + v, o -> o.full(TIPPER, v), NONE);
        for (int v : new int[] {0, -1, 5001, LEAST, MOST}) refused("melt " + v, o -> o.melt(SNOW, v), NONE);
    }

    /** Promise 7, when 20 have melted TODAY: 4980 more could. */
    private static void meltsTooMuch() {
        for (int v : new int[] {4981, 5000}) refused("melt " + v, o -> o.melt(SNOW, v), NONE);
    }

    /** Promise 9. */
    private static void byHand() {
        for (int v : new int[] {-2, 5001, LEAST, MOST}) refused("hand " + v, o -> o.hand(CAN, 15, v), NONE);
        for (int day : new int[] {-1, 16, 56, LEAST, MOST}) {
            for (int v : new int[] {NONE, 0, 5000}) refused("hand for day " + day, o -> o.hand(CAN, day, v), NONE);
        }
    }

    /** Promise 12. */
    private static void rules() {
        int[][] cant = {{0, -1}, {0, 5001}, {1, -1}, {1, 201}, {2, 0}, {2, 5001}, {3, -1}, {3, 101}};
        for (int[] rule : cant) refused("set " + rule[0] + " " + rule[1], o -> o.set(rule[0], rule[1]) ? 1 : 0, 0);
        for (int what = 0; what < 12; what++) {
            for (int v : new int[] {LEAST, MOST}) {
                int rule = what;
                refused("set " + what + " " + v, o -> o.set(rule, v) ? 1 : 0, 0);
            }
        }
        for (int what = 4; what < 12; what++) {
            for (int v : new int[] {-1, 1001}) {
                int rule = what;
                refused("set " + what + " " + v, o -> o.set(rule, v) ? 1 : 0, 0);
            }
        }
        for (int what : new int[] {-1, 12, LEAST, MOST}) refused("set " + what, o -> o.set(what, 1) ? 1 : 0, 0);
    }

    /** Promises 13 to 18 and 20, of days that are none. */
    private static void days() {
        for (int day : NO_DAYS) {
            for (int p : new int[] {CAN, STORE}) {
                refused("raw " + day, o -> o.raw(p, day), NONE);
                refused("known " + day, o -> o.known(p, day, 15), NONE);
                refused("why " + day, o -> o.why(p, day), NONE);
                refused("state " + day, o -> o.state(p, day), NONE);
                refused("number " + day, o -> o.number(p, day), NONE);
                refused("squares " + day, o -> o.squares(p, day), NONE);
            }
            refused("from " + day, o -> o.from(CAN, day, 0), NONE);
        }
        for (int i : new int[] {-1, 4, LEAST, MOST}) refused("from " + i, o -> o.from(CAN, 1, i), NONE);
        refused("known ahead of all days", o -> o.known(CAN, 0, -1), NONE);
    }

    /** Promises 19 and 21 to 25. */
    private static void squaresAndValleys() {
        for (int z : new int[] {-1, 10, LEAST, MOST}) {
            refused("part x " + z, o -> o.part(z, 1, 1), NONE);
            refused("part y " + z, o -> o.part(1, z, 1), NONE);
            for (boolean in : new boolean[] {true, false}) {
                refused("valley x " + z, o -> o.valley(0, z, 0, in), NONE);
                refused("valley y " + z, o -> o.valley(0, 0, z, in), NONE);
            }
        }
        for (int v : new int[] {-1, 8, LEAST, MOST}) {
            for (boolean in : new boolean[] {true, false}) refused("valley " + v, o -> o.valley(v, 0, 0, in), NONE);
            refused("rain " + v, o -> o.rain(v, 1), NONE);
            refused("mean " + v, o -> o.mean(v, 1), NONE);
            refused("flow " + v, o -> o.flow(v, 1), NONE);
            refused("ahead " + v, o -> o.ahead(v, -1), NONE);
        }
        for (int day : NO_DAYS) {
            refused("part " + day, o -> o.part(1, 1, day), NONE);
            refused("rain " + day, o -> o.rain(0, day), NONE);
            refused("mean " + day, o -> o.mean(0, day), NONE);
        }
        for (int day : new int[] {-1, 64, LEAST, MOST}) refused("flow " + day, o -> o.flow(0, day), NONE);
        refused("rain without squares", o -> o.rain(1, 1), NONE);
        refused("mean without squares", o -> o.mean(1, 1), NONE);
        refused("ahead of all flows", o -> o.ahead(0, Long.MAX_VALUE), NONE);
    }

    /** Promises 26 to 28, when weeks 0 and 1 have ended. */
    private static void weeks() {
        for (int w : new int[] {-1, 8, LEAST, MOST}) refused("week " + w, o -> o.week(CAN, w, 0), NONE);
        for (int what : new int[] {-1, 2, LEAST, MOST}) refused("week's " + what, o -> o.week(CAN, 0, what), NONE);
        for (int w : new int[] {0, 2, -1, 8, LEAST, MOST}) refused("misses " + w, o -> o.misses(CAN, w), NONE);
    }

    /** "TODAY .. 56 at last (no day is read then)" */
    private static void afterTheLastDay() {
        for (int p : GAUGES) refused("read of " + p + " on day 56", o -> o.read(p, 1), NONE);
        refused("full on day 56", o -> o.full(TIPPER, 1), NONE);
        refused("melt on day 56", o -> o.melt(SNOW, 1), NONE);
        refused("other on day 56", o -> o.other(TWIN, 1), NONE);
        refused("hand for day 56", o -> o.hand(CAN, 56, 1), NONE);
        refused("close on day 56", o -> o.close(), NONE);
        refused("read of a post on day 56", o -> o.read(POST, 1), WRONG);
        refused("full of a can on day 56", o -> o.full(CAN, 1), WRONG);
        refused("melt of a can on day 56", o -> o.melt(CAN, 1), WRONG);
        refused("other of a can on day 56", o -> o.other(CAN, 1), WRONG);
        refused("read of nothing on day 56", o -> o.read(EMPTY, 1), NONE);
        refused("raw of day 56", o -> o.raw(CAN, 56), NONE);
        refused("state of day 56", o -> o.state(CAN, 56), NONE);
    }

    /** "NONE, too: .. 100 were put in" */
    private static void hundredPutIn() {
        for (int p : new int[] {CAN, TIPPER, SNOW, TWIN}) {
            for (int v : new int[] {NONE, 0, 5000}) refused("hand of " + p + " behind 100", o -> o.hand(p, 0, v), NONE);
        }
        refused("hand of a store behind 100", o -> o.hand(STORE, 0, 1), WRONG);
        refused("hand of a post behind 100", o -> o.hand(POST, 0, 1), WRONG);
        refused("hand of nothing behind 100", o -> o.hand(EMPTY, 0, 1), NONE);
    }

    /** Promise 7: "there is not so much" */
    private static void nothingLies() {
        for (int v : new int[] {1, 5000}) refused("melt where no snow lies", o -> o.melt(SNOW, v), NONE);
    }

    private static void newOffice() {
        for (int p : new int[] {0, 7, 15}) {
            for (int i = 0; i < PLACE_CALLS.length; i++) {
                PlaceCall call = PLACE_CALLS[i];
                refused("call " + i + " of the empty place " + p, o -> call.on(o, p), NONE);
            }
        }
        for (int v = 0; v < 8; v++) {
            int valley = v;
            refused("rain of the empty valley " + v, o -> o.rain(valley, 0), NONE);
            refused("mean of the empty valley " + v, o -> o.mean(valley, 0), NONE);
        }
        refused("part without gauges", o -> o.part(0, 0, 0), NONE);
    }
}
