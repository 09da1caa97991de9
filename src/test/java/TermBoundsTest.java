/**
 * Each sentence of the document's Terms that names a bound, in its order and in its words: the value just inside of
 * the bound, and the one just outside.
 */
public final class TermBoundsTest {
    private static final int NONE = RainOffice.NONE;
    private static final int WRONG = RainOffice.WRONG;
    private static final int CAN = 0, TIPPER = 1, SNOW = 2, STORE = 3, TWIN = 4, POST = 5;
    private static final int GREATEST = 0, NEAR = 1, WET = 2, PART = 3, UNIT = 4;
    private static final Check CHECK = new Check();

    private static void due(String what, long got, long want) { CHECK.due(what, got, want); }

    public static void main(String[] args) {
        squaresOfTheLand();
        placesOfTheNet();
        severalOnASquare();
        kinds();
        sizes();
        noSizes();
        firstAndLastDay();
        beginsWhenPut();
        latestOfEachSort();
        storeSinceItWasReadLast();
        fullOnBothDays();
        fullTowardsZero();
        snowNeitherNorMelted();
        twinTogether();
        byHandAhead();
        nearest();
        aboveTheGreatest();
        onlyZeroIsDry();
        twoOrMoreOthers();
        atMostNear();
        wetOrMore();
        moreThanThePart();
        upToFour();
        ownFirstDay();
        daysAheadOfToday();
        sumOfTheOtherIsZero();
        nearness();
        atOnceDownwards();
        noneToMendBy();
        trustedOnAllDays();
        totalIsZero();
        restsGoByOne();
        states();
        belongs();
        units();
        daysWithoutFlow();
        weekDays();
        fourNearestOfAWeek();
        partsOfABreak();
        sumOfTheFourIsZero();
        CHECK.end("TermBoundsTest");
    }

    // ---- Terms 1 ----

    /** "THE LAND has squares x, y of 0 .. 9." */
    private static void squaresOfTheLand() {
        for (int x : new int[] {0, 9}) {
            for (int y : new int[] {0, 9}) {
                RainOffice o = new RainOffice();
                due("put on " + x + ", " + y, o.put(3, CAN, x, y, 0), 3);
                due("its x", o.look(3, 1), x);
                due("its y", o.look(3, 2), y);
                o.read(3, 4);
                due("part of " + x + ", " + y, o.part(x, y, 0), 3);
                due("valley on " + x + ", " + y, o.valley(0, x, y, true), 1);
                due("its rain", o.rain(0, 0), 4);
                due("it goes", o.valley(0, x, y, false), 0);
            }
        }
        for (int z : new int[] {-1, 10}) {
            RainOffice o = Scenes.cans(0, 0);
            o.read(0, 4);
            due("put on x " + z, o.put(3, CAN, z, 5, 0), NONE);
            due("put on y " + z, o.put(3, CAN, 5, z, 0), NONE);
            due("part of x " + z, o.part(z, 5, 0), NONE);
            due("part of y " + z, o.part(5, z, 0), NONE);
            due("valley on x " + z, o.valley(0, z, 5, true), NONE);
            due("valley on y " + z, o.valley(0, 5, z, true), NONE);
        }
    }

    /** "PLACES 0 .. 15 of the net hold nothing (at first)" (the places -1 and 16, by each call: RefusalsTest) */
    private static void placesOfTheNet() {
        for (int p : new int[] {0, 15}) {
            RainOffice o = new RainOffice();
            due("nothing at first in " + p, o.look(p, 0), NONE);
            due("put " + p, o.put(p, CAN, 4, 4, 0), p);
            due("read " + p, o.read(p, 5), 1);
            due("raw " + p, o.raw(p, 0), 5);
            due("hand " + p, o.hand(p, 0, 6), 1);
            due("known " + p, o.known(p, 0, 0), 6);
            due("why " + p, o.why(p, 0), 0);
            due("state " + p, o.state(p, 0), 1);
            due("number " + p, o.number(p, 0), 6);
            due("part " + p, o.part(9, 0, 0), p);
            due("squares " + p, o.squares(p, 0), 100);
            due("week " + p, o.week(p, 0, 0), 6);
            Scenes.closeUpTo(o, 14);
            due("cleft " + p, o.cleft(p), 1);
            due("misses " + p, o.misses(p, 1), 6000);
            o.put(15 - p, CAN, 0, 0, 0);
            o.read(15 - p, 3);
            due("from, in " + p, o.from(p, 14, 0), 15 - p);
            due("lift " + p, o.lift(p), CAN);
            due("lift again " + p, o.lift(p), NONE);
            due("put a tipper " + p, o.put(p, TIPPER, 4, 4, 1), p);
            due("full " + p, o.full(p, 1), 1);
            o.lift(p);
            o.put(p, TWIN, 4, 4, 1);
            due("other " + p, o.other(p, 1), 1);
            o.lift(p);
            o.put(p, SNOW, 4, 4, 1);
            o.read(p, 2);
            due("melt " + p, o.melt(p, 1), 1);
        }
    }

    /** "a GAUGE on a square (several may be on one)" */
    private static void severalOnASquare() {
        RainOffice o = new RainOffice();
        for (int p = 0; p < 16; p++) due("all on one square " + p, o.put(p, p % 6, 9, 9, 20), p);
    }

    /** "KINDS: 0 CAN, 1 TIPPER, 2 SNOW, 3 STORE, 4 TWIN, 5 POST." */
    private static void kinds() {
        RainOffice o = new RainOffice();
        for (int kind = CAN; kind <= POST; kind++) {
            due("put kind " + kind, o.put(kind, kind, 0, 0, 1), kind);
            due("look kind " + kind, o.look(kind, 0), kind);
        }
        due("kind -1", o.put(6, -1, 0, 0, 1), NONE);
        due("kind 6", o.put(6, 6, 0, 0, 1), NONE);
        due("nothing came", o.look(6, 0), NONE);
    }

    /** "A TIPPER and a TWIN have a SIZE (1 .. 20 tenths a tip)." */
    private static void sizes() {
        for (int kind : new int[] {TIPPER, TWIN}) {
            RainOffice o = new RainOffice();
            due("size 0", o.put(0, kind, 0, 0, 0), NONE);
            due("size 21", o.put(0, kind, 0, 0, 21), NONE);
            due("size 1", o.put(0, kind, 0, 0, 1), 0);
            due("size 20", o.put(1, kind, 0, 0, 20), 1);
            due("it is 1", o.look(0, 3), 1);
            due("it is 20", o.look(1, 3), 20);
            for (int p = 0; p < 2; p++) {
                o.read(p, 250);
                o.other(p, 250);
            }
            due("250 tips of 1", o.raw(0, 0), 250);
            due("250 tips of 20", o.raw(1, 0), 5000);
        }
    }

    /** "SIZE (where it has one)", "3 SIZE (0 of one without)" */
    private static void noSizes() {
        int p = 0;
        RainOffice o = new RainOffice();
        for (int kind : new int[] {CAN, SNOW, STORE, POST}) {
            for (int size : new int[] {Integer.MIN_VALUE, -1, 0, 21}) {
                due("kind " + kind + " has no size " + size, o.put(p, kind, 0, 0, size), p);
                due("so it is 0", o.look(p, 3), 0);
                p++;
            }
        }
    }

    /** "DAYS are 0 .. 55, TODAY 0 at first, 56 at last (no day is read then)." */
    private static void firstAndLastDay() {
        RainOffice o = new RainOffice();
        for (int p = CAN; p <= TWIN; p++) o.put(p, p, p, 0, 2);
        due("today at first", o.today(), 0);
        Scenes.closeUpTo(o, 55);
        for (int p = CAN; p <= TWIN; p++) due("read on day 55 " + p, o.read(p, 7), 1);
        due("full on day 55", o.full(TIPPER, 7), 1);
        due("melt on day 55", o.melt(SNOW, 3), 4);
        due("other on day 55", o.other(TWIN, 7), 1);
        due("close on day 55", o.close(), 56);
        for (int p = CAN; p <= TWIN; p++) due("read on day 56 " + p, o.read(p, 8), NONE);
        due("full on day 56", o.full(TIPPER, 7), NONE);
        due("melt on day 56", o.melt(SNOW, 3), NONE);
        due("other on day 56", o.other(TWIN, 7), NONE);
        due("close on day 56", o.close(), NONE);
        due("today at last", o.today(), 56);
        int[] raw = {7, 14, 3, NONE, 14};
        for (int p = CAN; p <= TWIN; p++) due("the last day's number " + p, o.raw(p, 55), raw[p]);
        due("the store spreads to it", o.state(STORE, 55), 4);
    }

    /** "A GAUGE begins on the day on which it is put." */
    private static void beginsWhenPut() {
        for (int first : new int[] {0, 1, 55, 56}) {
            RainOffice o = new RainOffice();
            Scenes.closeUpTo(o, first);
            o.put(1, CAN, 0, 0, 0);
            o.put(2, POST, 0, 0, 0);
            due("first day " + first, o.look(1, 4), first);
            due("of a post on day " + first, o.look(2, 4), 0);
            due("hand for it " + first, o.hand(1, first, 3), first < 56 ? 1 : NONE);
            due("hand for the day ahead of it " + first, o.hand(1, first - 1, 3), NONE);
        }
    }

    /** "READINGS are of TODAY, the latest of each sort counts" */
    private static void latestOfEachSort() {
        RainOffice o = new RainOffice();
        for (int p = CAN; p <= TWIN; p++) o.put(p, p, p, 0, 8);
        o.full(TIPPER, 0);
        o.close();
        for (int v : new int[] {100, 3}) {
            for (int p = CAN; p <= TWIN; p++) o.read(p, v);
        }
        o.other(TWIN, 100);
        o.other(TWIN, 3);
        o.full(TIPPER, 7);
        o.full(TIPPER, 2);
        int[] raw = {3, 26, 0, NONE, 24};
        for (int p = CAN; p <= TWIN; p++) {
            due("the latest of " + p, o.raw(p, 1), raw[p]);
            due("not of the day ahead " + p, o.raw(p, 0), NONE);
            due("not of the day behind " + p, o.raw(p, 2), NONE);
        }
        due("the latest of a store", o.number(STORE, 0) + o.number(STORE, 1), 3);
        due("but all the snow lies", o.look(SNOW, 5), 103);
        o.melt(SNOW, 20);
        o.melt(SNOW, 1);
        due("and all that melts counts", o.raw(SNOW, 1), 21);
    }

    /** "v tenths since it was read last (the days behind that one; from its first day on, if never), up to TODAY" */
    private static void storeSinceItWasReadLast() {
        RainOffice o = Scenes.cans(1, 1);
        Scenes.day(o, 1);
        o.put(1, STORE, 0, 0, 0);
        Scenes.day(o, 1);
        Scenes.day(o, 1, 10);
        Scenes.day(o, 1, 7);
        Scenes.day(o, 1);
        o.read(0, 1);
        o.read(1, 40);
        int[] want = {NONE, 5, 5, 7, 20, 20, NONE};
        for (int day = 0; day < want.length; day++) due("the store on day " + day, o.number(1, day), want[day]);
        o.close();
        due("not read today", o.state(1, 6), 0);
        o.read(1, 0);
        due("read as 0", o.state(1, 6), 4);
    }

    /** "if it is told how FULL it is on that day and on the one ahead, SIZE times what this is more than that" */
    private static void fullOnBothDays() {
        int[][] fulls = {{NONE, NONE, 160}, {NONE, 7, 160}, {7, NONE, 160}, {0, 0, 160}, {0, 7, 174}, {7, 0, 146}};
        for (int[] f : fulls) due("full " + f[0] + ", then " + f[1], tipped(16, 10, f[0], f[1]), f[2]);
        RainOffice o = new RainOffice();
        o.put(0, TIPPER, 0, 0, 16);
        o.full(0, 7);
        o.read(0, 10);
        due("full on its first day", o.raw(0, 0), 160);
        o.close();
        o.close();
        o.read(0, 10);
        o.full(0, 0);
        due("two days ahead is not the day ahead", o.raw(0, 2), 160);
    }

    /** "by 8, towards 0 (below 0: 0)" */
    private static void fullTowardsZero() {
        due("7 by 8", tipped(1, 1, 0, 7), 1);
        due("-7 by 8", tipped(1, 1, 7, 0), 1);
        due("8 by 8", tipped(8, 1, 0, 1), 9);
        due("-8 by 8", tipped(8, 1, 1, 0), 7);
        due("15 by 8", tipped(3, 1, 0, 5), 4);
        due("-15 by 8", tipped(3, 1, 5, 0), 2);
        due("5 times 4 - 3, by 8; not 20 by 8 less 15 by 8", tipped(5, 1, 3, 4), 5);
        due("5 times 3 - 4, by 8; not 15 by 8 less 20 by 8", tipped(5, 1, 4, 3), 5);
        due("8 less 7, the least above 0", tipped(8, 1, 7, 0), 1);
        due("0 less 0", tipped(1, 0, 7, 0), 0);
        due("0 less 1: below 0", tipped(8, 0, 1, 0), 0);
        due("0 less 17: below 0", tipped(20, 0, 7, 0), 0);
        due("the most of all", tipped(20, 250, 0, 7), 5017);
    }

    private static int tipped(int size, int tips, int fullThen, int fullNow) {
        RainOffice o = new RainOffice();
        o.put(0, TIPPER, 0, 0, size);
        if (fullThen != NONE) o.full(0, fullThen);
        o.close();
        o.read(0, tips);
        if (fullNow != NONE) o.full(0, fullNow);
        return o.raw(0, 1);
    }

    /** "none, if it was not read (a SNOW: neither v nor MELTED)" */
    private static void snowNeitherNorMelted() {
        RainOffice o = new RainOffice();
        o.put(0, SNOW, 0, 0, 0);
        due("neither", o.raw(0, 0), NONE);
        o.read(0, 0);
        due("v alone, even 0", o.raw(0, 0), 0);
        o.read(0, 9);
        o.close();
        due("neither, though it lies", o.raw(0, 1), NONE);
        o.melt(0, 1);
        due("MELTED alone", o.raw(0, 1), 1);
        o.close();
        o.melt(0, 9);
        due("what can't MELT is no reading", o.raw(0, 2), NONE);
    }

    /** "v and OTHER together times SIZE, by 2, downwards; none, if one is missing" */
    private static void twinTogether() {
        due("1 by 2", twin(1, 1, 0), 0);
        due("2 by 2", twin(1, 1, 1), 1);
        due("3 by 2", twin(1, 1, 2), 1);
        due("9 by 2", twin(3, 0, 3), 4);
        due("the least", twin(20, 0, 0), 0);
        due("the most", twin(20, 250, 250), 5000);
        due("v missing", twin(1, NONE, 4), NONE);
        due("OTHER missing", twin(1, 4, NONE), NONE);
        due("both missing", twin(1, NONE, NONE), NONE);
    }

    private static int twin(int size, int v, int other) {
        RainOffice o = new RainOffice();
        o.put(0, TWIN, 0, 0, size);
        if (v != NONE) o.read(0, v);
        if (other != NONE) o.other(0, other);
        return o.raw(0, 0);
    }

    /** "What was put in BY HAND goes ahead of it (not of a STORE)." */
    private static void byHandAhead() {
        RainOffice o = new RainOffice();
        for (int kind = CAN; kind <= TWIN; kind++) {
            o.put(kind, kind, 0, 0, 1);
            o.read(kind, 9);
        }
        o.melt(SNOW, 9);
        o.other(TWIN, 9);
        for (int kind : new int[] {CAN, TIPPER, SNOW, TWIN}) {
            due("9 of " + kind, o.raw(kind, 0), 9);
            o.hand(kind, 0, 0);
            due("0 by hand of " + kind, o.raw(kind, 0), 0);
            o.hand(kind, 0, NONE);
            due("not read by hand of " + kind, o.raw(kind, 0), NONE);
        }
        due("of a store", o.hand(STORE, 0, 5), WRONG);
        due("its sum stays", o.number(STORE, 0), 9);
        RainOffice t = new RainOffice();
        t.put(0, TIPPER, 0, 0, 8);
        t.full(0, 0);
        t.hand(0, 0, 3);
        t.close();
        t.read(0, 1);
        t.full(0, 7);
        due("how FULL it was counts on behind a number put in", t.raw(0, 1), 15);
    }

    /** "DISTANCE: the square of x less x and that of y less y together. NEAREST: .. of like ones the lesser PLACE." */
    private static void nearest() {
        RainOffice o = Scenes.cans(5, 5, 5, 8, 8, 5, 5, 2, 2, 5, 7, 7, 9, 9);
        for (int p = 1; p < 7; p++) o.read(p, p);
        int[] want = {5, 1, 2, 3, NONE};
        for (int i = 0; i < 5; i++) due("8, then the lesser of four at 9: " + i, o.from(0, 0, i), want[i]);
        due("2 and 2", o.part(8, 8, 0), 5);
        due("5 and 1", o.part(9, 8, 0), 6);
        due("4 and 4", o.part(9, 7, 0), 5);
        due("2 and 5", o.part(9, 6, 0), 2);
    }

    // ---- Terms 2 ----

    /** "1 it is above the GREATEST (2000 at first)." */
    private static void aboveTheGreatest() {
        due("2000", whyOf(2000, NONE), 0);
        due("2001", whyOf(2001, NONE), 1);
        due("0 of 0", whyOf(0, 0), 0);
        due("1 of 0", whyOf(1, 0), 1);
        due("4999 of 4999", whyOf(4999, 4999), 0);
        due("5000 of 4999", whyOf(5000, 4999), 1);
        due("5000 of 5000", whyOf(5000, 5000), 0);
        RainOffice o = new RainOffice();
        o.put(0, TIPPER, 0, 0, 20);
        o.set(GREATEST, 5000);
        o.full(0, 0);
        o.close();
        o.read(0, 250);
        o.full(0, 7);
        due("5017 of 5000", o.why(0, 1), 1);
    }

    private static int whyOf(int v, int greatest) {
        RainOffice o = Scenes.cans(0, 0);
        if (greatest != NONE) o.set(GREATEST, greatest);
        o.read(0, v);
        return o.why(0, 0);
    }

    /** "2 it is 0" */
    private static void onlyZeroIsDry() {
        RainOffice o = Scenes.cans(5, 5, 5, 5, 5, 5);
        o.set(WET, 5000);
        o.read(1, 5000);
        o.read(2, 5000);
        o.read(0, 1);
        due("1 among 5000", o.why(0, 0), 0);
        o.read(0, 0);
        due("0 among 5000", o.why(0, 0), 2);
    }

    /** "two or more other GAUGES .. have RAW numbers of that day" */
    private static void twoOrMoreOthers() {
        RainOffice o = Scenes.cans(5, 5, 5, 5, 5, 5, 5, 5, 5, 5);
        o.put(5, STORE, 5, 5, 0);
        o.put(6, POST, 5, 5, 0);
        o.read(5, 500);
        o.read(0, 0);
        int[] want = {0, 0, 2, 2, 2};
        for (int p = 1; p < 5; p++) {
            o.read(p, 50);
            due(p + " other gauges", o.why(0, 0), want[p]);
        }
        o.hand(1, 0, NONE);
        o.hand(2, 0, NONE);
        due("two without a number", o.why(0, 0), 2);
        o.hand(3, 0, NONE);
        due("one with a number", o.why(0, 0), 0);
        RainOffice next = Scenes.cans(5, 5, 5, 5, 5, 5);
        Scenes.day(next, NONE, 50, 50);
        next.read(0, 0);
        next.read(1, 50);
        due("of that day alone", next.why(0, 1), 0);
    }

    /** "at a DISTANCE of at most NEAR (4 at first)" */
    private static void atMostNear() {
        due("4 and 4", dryBeside(NONE, 5, 5, 5, 7, 3, 5), 2);
        due("4 and 5", dryBeside(NONE, 5, 5, 5, 7, 3, 4), 0);
        due("2 and 2", dryBeside(NONE, 5, 5, 4, 4, 6, 4), 2);
        due("0 of 0", dryBeside(0, 5, 5, 5, 5, 5, 5), 2);
        due("1 of 0", dryBeside(0, 5, 5, 5, 5, 5, 6), 0);
        due("162 of 200", dryBeside(200, 0, 0, 9, 9, 9, 9), 2);
        due("162 of 162", dryBeside(162, 0, 9, 9, 0, 9, 0), 2);
        due("162 of 161", dryBeside(161, 0, 0, 9, 9, 9, 9), 0);
    }

    /** The rule by which 0 on a square is doubted, beside two wet gauges on others. */
    private static int dryBeside(int near, int... squares) {
        RainOffice o = Scenes.cans(squares);
        if (near != NONE) o.set(NEAR, near);
        o.read(0, 0);
        o.read(1, 50);
        o.read(2, 50);
        return o.why(0, 0);
    }

    /** "which are all WET (10 at first) or more" */
    private static void wetOrMore() {
        due("10 and 10", dryAmong(NONE, 10, 10), 2);
        due("10 and 9", dryAmong(NONE, 10, 9), 0);
        due("9 and 10", dryAmong(NONE, 9, 10), 0);
        due("10, 10, and 9", dryAmong(NONE, 10, 10, 9), 0);
        due("1 and 1 of 1", dryAmong(1, 1, 1), 2);
        due("1 and 0 of 1", dryAmong(1, 1, 0), 0);
        due("5000 and 5000 of 5000", dryAmong(5000, 5000, 5000), 2);
        due("5000 and 4999 of 5000", dryAmong(5000, 5000, 4999), 0);
    }

    /** The rule by which 0 is doubted among others on its square. */
    private static int dryAmong(int wet, int... others) {
        RainOffice o = Scenes.cans(5, 5, 5, 5, 5, 5, 5, 5);
        if (wet != NONE) o.set(WET, wet);
        o.read(0, 0);
        for (int i = 0; i < others.length; i++) o.read(i + 1, others[i]);
        return o.why(0, 0);
    }

    /** "3 of a TWIN (not BY HAND): v and OTHER are unlike by more than the PART (20 percent at first) of the greater" */
    private static void moreThanThePart() {
        int[][] pairs = {{100, 80, 0}, {100, 79, 3}, {5, 4, 0}, {4, 3, 3}, {250, 200, 0}, {250, 199, 3}};
        for (int[] pair : pairs) {
            due(pair[0] + " and " + pair[1], unlike(NONE, pair[0], pair[1]), pair[2]);
            due(pair[1] + " and " + pair[0], unlike(NONE, pair[1], pair[0]), pair[2]);
        }
        due("alike, of 0 percent", unlike(0, 250, 250), 0);
        due("both 0, of 0 percent", unlike(0, 0, 0), 0);
        due("unlike by 1, of 0 percent", unlike(0, 250, 249), 3);
        due("all of it, of 100 percent", unlike(100, 250, 0), 0);
        due("all of it, of 99 percent", unlike(99, 250, 0), 3);
        RainOffice o = new RainOffice();
        o.put(0, TWIN, 0, 0, 2);
        o.read(0, 9);
        o.other(0, 1);
        due("unlike", o.why(0, 0), 3);
        o.hand(0, 0, 10);
        due("but by hand", o.why(0, 0), 0);
        o.hand(0, 0, NONE);
        due("not read, by hand", o.why(0, 0), 0);
        o.close();
        o.read(0, 4);
        o.other(0, 5);
        due("4 and 5, whatever was read on the day ahead", o.why(0, 1), 0);
        o.close();
        o.read(0, 3);
        o.other(0, 4);
        due("3 and 4, whatever was read on the day ahead", o.why(0, 2), 3);
        due("and the day ahead stays", o.why(0, 1), 0);
    }

    private static int unlike(int percent, int v, int other) {
        RainOffice o = new RainOffice();
        o.put(0, TWIN, 0, 0, 2);
        if (percent != NONE) o.set(PART, percent);
        o.read(0, v);
        o.other(0, other);
        return o.why(0, 0);
    }

    /** "of the NEAREST GAUGES, up to four, that have a TRUSTED number n of that day" */
    private static void upToFour() {
        RainOffice o = Scenes.cans(5, 5, 5, 5, 5, 5, 5, 5, 5, 5, 5, 5);
        int[] means = {10, 15, 20, 25, 25};
        for (int p = 1; p < 6; p++) {
            o.read(p, 10 * p);
            due("mended by " + p, o.number(0, 0), means[p - 1]);
            due("the last of them", o.from(0, 0, Math.min(p, 4) - 1), Math.min(p, 4));
            due("and no more", o.from(0, 0, Math.min(p, 4)), NONE);
        }
        o.read(2, 2001);
        due("without the doubted one", o.number(0, 0), 32);
        due("the fifth counts", o.from(0, 0, 3), 5);
    }

    /** "where it is not TRUSTED (and the GAUGE no STORE, the day not ahead of its first one)" */
    private static void ownFirstDay() {
        RainOffice o = Scenes.cans(0, 0);
        Scenes.day(o, 7);
        o.put(1, CAN, 0, 0, 0);
        o.put(2, STORE, 0, 0, 0);
        o.read(0, 8);
        due("the day ahead of its first", o.state(1, 0), 0);
        due("its number", o.number(1, 0), NONE);
        due("by none", o.from(1, 0, 0), NONE);
        due("its first day", o.state(1, 1), 3);
        due("its number", o.number(1, 1), 8);
        due("by one", o.from(1, 1, 0), 0);
        due("a store", o.state(2, 1), 0);
        due("by wrong", o.from(2, 1, 0), WRONG);
        o.read(1, 5);
        due("a trusted one", o.number(1, 1), 5);
        due("would be mended", o.from(1, 1, 0), 0);
    }

    /** "A and B being its own sum and that one's of the days ahead of TODAY on which both are TRUSTED" */
    private static void daysAheadOfToday() {
        RainOffice o = Scenes.cans(0, 0, 1, 0);
        Scenes.day(o, NONE, 30);
        o.read(0, 20);
        o.read(1, 10);
        due("TODAY counts not", o.number(0, 0), 30);
        o.close();
        due("the day ahead of it does: 30 times 20 by 10", o.number(0, 0), 60);
        o.read(0, 2001);
        o.read(1, 10);
        o.close();
        due("not one on which its own is doubted", o.number(0, 0), 60);
        o.read(0, 10);
        o.read(1, 2001);
        o.close();
        due("not one on which that one's is doubted", o.number(0, 0), 60);
        Scenes.closeUpTo(o, 55);
        o.read(0, 80);
        o.read(1, 10);
        due("not day 55 on day 55", o.number(0, 0), 60);
        o.close();
        due("day 55 on day 56: 30 times 100 by 20", o.number(0, 0), 150);
    }

    /** "(both 1, if B is 0)" */
    private static void sumOfTheOtherIsZero() {
        int[][] sums = {{20, 0, 30}, {20, 1, 600}, {0, 1, 0}, {0, 0, 30}};
        for (int[] s : sums) {
            RainOffice o = Scenes.cans(0, 0, 1, 0);
            Scenes.day(o, s[0], s[1]);
            o.read(1, 30);
            due("30 times " + s[0] + " by " + s[1], o.number(0, 1), s[2]);
        }
    }

    /** "NEARNESS: 144 by the DISTANCE, downwards, at least 1 (288 at DISTANCE 0)" */
    private static void nearness() {
        due("0: 288", besideZero(0, 0), 288_000 / 576);
        due("1: 144", besideZero(1, 0), 144_000 / 432);
        due("2: 72", besideZero(1, 1), 72_000 / 360);
        due("5: 28", besideZero(1, 2), 28_000 / 316);
        due("72: 2", besideZero(6, 6), 2_000 / 290);
        due("73: 1", besideZero(3, 8), 1_000 / 289);
        due("130: 1", besideZero(9, 7), 1_000 / 289);
        due("145: at least 1", besideZero(9, 8), 1_000 / 289);
        due("162: at least 1", besideZero(9, 9), 1_000 / 289);
    }

    /** What 0 is mended to by 0 on its own square, and by 1000 on another one. */
    private static int besideZero(int x, int y) {
        RainOffice o = Scenes.cans(0, 0, 0, 0, x, y);
        o.read(1, 0);
        o.read(2, 1000);
        return o.number(0, 0);
    }

    /** "in thousandths, downwards .. The sum of these by the sum of NEARNESSES, then by 1000, both at once, downwards" */
    private static void atOnceDownwards() {
        RainOffice o = Scenes.cans(0, 0, 1, 0, 0, 1);
        Scenes.day(o, 1, 2, 2);
        Scenes.day(o, NONE, 1, 3);
        due("500 and 1500 by 2", o.number(0, 1), 1);
        Scenes.day(o, NONE, 1, 2);
        due("500 and 1000 by 2", o.number(0, 2), 0);
        RainOffice t = Scenes.cans(0, 0, 1, 0, 0, 1);
        Scenes.day(t, 1, 3, 3);
        Scenes.day(t, NONE, 2, 4);
        due("666 and 1333 by 2", t.number(0, 1), 0);
        Scenes.day(t, NONE, 3, 3);
        due("1000 and 1000 by 2", t.number(0, 2), 1);
        RainOffice far = Scenes.cans(0, 0, 9, 9);
        Scenes.day(far, 999, 1000);
        Scenes.day(far, NONE, 1);
        due("999 by 1", far.number(0, 1), 0);
        far.hand(0, 0, 1000);
        due("1000 by 1", far.number(0, 1), 1);
        far.hand(0, 0, 1999);
        due("1999 by 1", far.number(0, 1), 1);
    }

    /** "None, if there is no such GAUGE." */
    private static void noneToMendBy() {
        RainOffice o = Scenes.cans(0, 0, 1, 0);
        due("not read", o.number(0, 0), NONE);
        o.read(1, 2001);
        due("a doubted neighbour", o.number(0, 0), NONE);
        due("not mended", o.state(0, 0), 0);
        due("the doubted one itself", o.number(1, 0), 2001);
        due("its state", o.state(1, 0), 2);
        o.read(1, 2000);
        due("a trusted one", o.number(0, 0), 2000);
    }

    /** "the NEAREST GAUGE that is TRUSTED on all days c .. d, with T in all" */
    private static void trustedOnAllDays() {
        RainOffice o = Scenes.cans(1, 1, 3, 3, 6, 6, 9, 9);
        o.put(4, STORE, 0, 0, 0);
        Scenes.day(o, NONE, 30, 20, 0);
        Scenes.day(o, 10, 10, 2001, 10);
        Scenes.day(o, 10, NONE, 20, 30, 40);
        int[] want = {0, 10, 30};
        for (int day = 0; day < 3; day++) due("neither first nor last nor one between is missing", o.number(4, day), want[day]);
        o.hand(2, 1, 0);
        due("nearer, if trusted between", o.number(4, 0), 20);
        o.hand(1, 2, 0);
        due("nearer, if trusted last", o.number(4, 0), 30);
        o.hand(0, 0, 0);
        due("nearer, if trusted first", o.number(4, 0), 0);
        due("so", o.number(4, 1), 20);
    }

    /** "If there is no such GAUGE, or T is 0: all of V to day d, 0 to the others." */
    private static void totalIsZero() {
        RainOffice o = Scenes.cans(1, 1);
        o.put(1, STORE, 0, 0, 0);
        Scenes.day(o, 0);
        o.read(1, 5000);
        due("no such gauge", o.number(1, 0), 0);
        due("no such gauge, the last day", o.number(1, 1), 5000);
        due("no such gauge, but told", o.state(1, 0), 4);
        o.read(0, 0);
        due("T is 0", o.number(1, 0), 0);
        due("T is 0, the last day", o.number(1, 1), 5000);
        o.hand(0, 0, 1);
        due("T is 1", o.number(1, 0), 5000);
        due("T is 1, the last day", o.number(1, 1), 0);
        due("T is 1, and told", o.state(1, 1), 4);
        o.read(1, 0);
        due("(A reading of the same day again counts anew.)", o.number(1, 0), 0);
    }

    /** "what is left goes by 1 to the days with the greatest rests of that, of like ones the earlier" */
    private static void restsGoByOne() {
        RainOffice o = Scenes.cans(1, 1);
        o.put(1, STORE, 0, 0, 0);
        for (int v : new int[] {1, 2, 1, 2}) Scenes.day(o, v);
        o.read(0, 1);
        int[][] parts = {{0, 0, 0, 0, 0, 0}, {1, 0, 1, 0, 0, 0}, {2, 0, 1, 0, 1, 0}, {3, 1, 1, 0, 1, 0},
            {4, 1, 1, 1, 1, 0}, {5, 1, 1, 1, 1, 1}, {6, 1, 2, 1, 1, 1}, {7, 1, 2, 1, 2, 1}, {8, 1, 3, 1, 2, 1},
            {4998, 714, 1428, 714, 1428, 714}, {4999, 714, 1429, 714, 1428, 714}, {5000, 714, 1429, 714, 1429, 714}};
        for (int[] part : parts) {
            o.read(1, part[0]);
            for (int day = 0; day < 5; day++) due(part[0] + " on day " + day, o.number(1, day), part[day + 1]);
        }
    }

    /** "STATE of a GAUGE and day: 0 not read (none), 1 TRUSTED, 2 DOUBTED (and not MENDED), 3 MENDED, 4 SPREAD." */
    private static void states() {
        RainOffice o = Scenes.cans(0, 0, 9, 9);
        o.put(2, STORE, 5, 5, 0);
        int[] none = {0, 0, 0};
        int[] doubted = {2, 0, 0};
        int[] mended = {3, 1, 4};
        int[] trusted = {1, 3, 4};
        for (int p = 0; p < 3; p++) due("none " + p, o.state(p, 0), none[p]);
        o.read(0, 2001);
        for (int p = 0; p < 3; p++) due("doubted " + p, o.state(p, 0), doubted[p]);
        o.read(1, 5);
        o.read(2, 5);
        for (int p = 0; p < 3; p++) due("mended " + p, o.state(p, 0), mended[p]);
        o.read(0, 2000);
        o.read(1, 2001);
        for (int p = 0; p < 3; p++) due("trusted " + p, o.state(p, 0), trusted[p]);
    }

    // ---- Terms 3 ----

    /** "A square BELONGS, on a day, to the NEAREST GAUGE that TELLS it." */
    private static void belongs() {
        RainOffice o = Scenes.cans(0, 0, 8, 0, 9, 9);
        o.put(3, STORE, 4, 9, 0);
        due("none tells", o.part(4, 0, 0), NONE);
        o.read(0, 2001);
        due("one that is mended tells not", o.part(0, 0, 0), NONE);
        o.read(1, 1);
        due("the one that tells", o.part(0, 9, 0), 1);
        o.read(0, 1);
        due("16 and 16", o.part(4, 0, 0), 0);
        due("9 and 25", o.part(3, 0, 0), 0);
        due("25 and 9", o.part(5, 0, 0), 1);
        o.read(3, 0);
        due("a store that spreads", o.part(4, 6, 0), 3);
        due("97 and 9", o.part(4, 6, 0), 3);
        due("32 and 25", o.part(4, 4, 0), 3);
        due("25 and 36", o.part(4, 3, 0), 0);
    }

    /** "times UNITS 0, 1, .. 7 (0 .. 1000 each; at first 1, then 0)" */
    private static void units() {
        RainOffice o = Scenes.cans(0, 0);
        o.valley(0, 0, 0, true);
        o.read(0, 3);
        int[] first = {3, 0, 0, 0, 0, 0, 0, 0, 0};
        for (int day = 0; day < 9; day++) due("at first " + day, o.flow(0, day), first[day]);
        for (int k = 0; k < 8; k++) {
            o.set(UNIT + k, 1000);
            due("unit 1000 " + k, o.flow(0, k), 3000);
            o.set(UNIT + k, 1001);
            o.set(UNIT + k, -1);
            due("not 1001, not -1 " + k, o.flow(0, k), 3000);
            o.set(UNIT + k, k);
            due("unit " + k, o.flow(0, k), 3 * k);
            due("not the day behind", o.flow(0, k + 1), 0);
        }
    }

    /** "(Days below 0, and those on which no GAUGE TELLS, have none.)" */
    private static void daysWithoutFlow() {
        RainOffice o = Scenes.cans(0, 0);
        o.valley(0, 9, 9, true);
        for (int k = 0; k < 8; k++) o.set(UNIT + k, 1);
        Scenes.day(o, 5);
        Scenes.day(o, 2001);
        Scenes.day(o, NONE);
        Scenes.day(o, 7);
        int[] want = {5, 5, 5, 12, 12, 12, 12, 12, 7, 7, 7, 0};
        for (int day = 0; day < want.length; day++) due("flow " + day, o.flow(0, day), want[day]);
    }

    /** "WEEKS 0 .. 7 are seven days each." */
    private static void weekDays() {
        RainOffice o = Scenes.cans(0, 0);
        for (int day = 0; day < 56; day++) Scenes.day(o, day % 7 == 0 ? 100 : day % 7 == 6 ? 10 : 1);
        for (int w = 0; w < 8; w++) due("week " + w, o.week(0, w, 0), 115);
        due("week -1", o.week(0, -1, 0), NONE);
        due("week 8", o.week(0, 8, 0), NONE);
        RainOffice t = Scenes.cans(0, 0);
        for (int day : new int[] {0, 6, 7, 48, 49, 55}) {
            Scenes.closeUpTo(t, day);
            t.read(0, day + 1);
        }
        int[] sums = {1 + 7, 8, 0, 0, 0, 0, 49, 50 + 56};
        for (int w = 0; w < 8; w++) due("its days " + w, t.week(0, w, 0), sums[w]);
    }

    /** "on which its up to four NEAREST other GAUGES that are no STORES are all TRUSTED, and it, too; B, that of the four" */
    private static void fourNearestOfAWeek() {
        RainOffice o = new RainOffice();
        o.put(15, CAN, 5, 5, 0);
        int[] a = {100, 100, 100, 100, 100, 100};
        int[] b = {0, 1, 3, 6, 10, 10};
        for (int n = 0; n < 6; n++) {
            if (n > 0) o.put(n, CAN, 5, 5, 0);
            o.read(15, 100);
            for (int p = 1; p <= n; p++) o.read(p, p);
            due("A beside " + n, o.week(15, 0, 0), a[n]);
            due("B of " + n, o.week(15, 0, 1), b[n]);
        }
        o.put(0, STORE, 5, 5, 0);
        due("a store counts not", o.week(15, 0, 1), 10);
        o.put(14, POST, 5, 5, 0);
        due("a post counts not", o.week(15, 0, 1), 10);
        o.read(5, 2001);
        due("the fifth is doubted", o.week(15, 0, 0), 100);
        o.read(4, 2001);
        due("the fourth is doubted: A", o.week(15, 0, 0), 0);
        due("the fourth is doubted: B", o.week(15, 0, 1), 0);
        o.read(4, 4);
        o.read(15, 2001);
        due("it is doubted: A", o.week(15, 0, 0), 0);
        due("it is doubted: B", o.week(15, 0, 1), 0);
    }

    /** "For a BREAK ahead of week w (1 .. the last whole week ahead of TODAY)" */
    private static void partsOfABreak() {
        RainOffice o = Scenes.cans(0, 0, 0, 0);
        o.read(0, 3);
        o.read(1, 4);
        for (int day = 0; day <= 56; day++) {
            int last = day / 7 - 1;
            due("w 0 on day " + day, o.misses(0, 0), NONE);
            due("w 1 on day " + day, o.misses(0, 1), last < 1 ? NONE : 0);
            due("the last w on day " + day, last < 1 ? NONE : o.misses(0, last), last < 1 ? NONE : 0);
            due("behind the last w on day " + day, o.misses(0, last + 1), NONE);
            due("the break on day " + day, o.cleft(0), last < 1 ? NONE : 1);
            o.close();
        }
    }

    /** "(.. 0 for SB 0: the amounts of A)", "of like ones the first" */
    private static void sumOfTheFourIsZero() {
        RainOffice o = Scenes.cans(0, 0, 9, 9);
        for (int week = 0; week < 3; week++) {
            o.read(0, 5 + week);
            o.read(1, 0);
            Scenes.closeUpTo(o, 7 * week + 7);
        }
        due("SB 0 in both parts", o.misses(0, 1), 18_000);
        due("like it", o.misses(0, 2), 18_000);
        due("the first of like ones", o.cleft(0), 1);
        o.hand(1, 14, 1);
        due("SB 1 in weeks 1, 2: 6 * 1, and 7 * 1 - 1 * 13", o.misses(0, 1), 5_000 + 12_000);
        due("SB 1 in week 2 alone", o.misses(0, 2), 11_000);
        due("the lesser", o.cleft(0), 2);
        o.hand(1, 14, 0);
        o.hand(1, 0, 3);
        due("SB 3 in week 0 alone", o.misses(0, 1), 13_000);
        due("5 * 3 - 3 * 11 and 6 * 3, by 3, then 7", o.misses(0, 2), 36_000 / 3 + 7_000);
        due("the first", o.cleft(0), 1);
    }
}
