/**
 * Each sentence of the document's promises that names a bound, in its order and in its words: the value just inside
 * of the bound, and the one just outside. (That a refused call changes nothing: RefusalsTest.)
 */
public final class PromiseBoundsTest {
    private static final int NONE = RainOffice.NONE;
    private static final int WRONG = RainOffice.WRONG;
    private static final int CAN = 0, TIPPER = 1, SNOW = 2, STORE = 3, TWIN = 4, POST = 5;
    private static final int EMPTY = 6;
    private static final Check CHECK = new Check();

    private static void due(String what, long got, long want) { CHECK.due(what, got, want); }

    public static void main(String[] args) {
        emptyNet();
        somethingLiesThere();
        goesWithItsReadings();
        looks();
        readings();
        snowLies();
        fulls();
        melts();
        others();
        handDays();
        handValues();
        handHundred();
        closes();
        sets();
        rawAndKnownDays();
        knownWhenADayEnded();
        daysOfQuestions();
        mendersByIndex();
        partOfDays();
        squaresOfDays();
        valleySquares();
        rainAndMean();
        flowDays();
        aheadOfLevels();
        weeks();
        wholeWeeks();
        CHECK.end("PromiseBoundsTest");
    }

    /** A net with one thing of each KIND, of SIZE 4, in the place of its number; place 6 is empty. */
    private static RainOffice oneOfEach() {
        RainOffice o = new RainOffice();
        for (int kind = CAN; kind <= POST; kind++) o.put(kind, kind, kind, 0, 4);
        return o;
    }

    /** Promise 1: "An empty net, day 0." */
    private static void emptyNet() {
        RainOffice o = new RainOffice();
        due("1 day", o.today(), 0);
        for (int p = 0; p < 16; p++) due("1 place " + p, o.look(p, 0), NONE);
        for (int v = 0; v < 8; v++) due("1 valley " + v, o.valley(v, 0, 0, false), 0);
    }

    /** Promise 2: "NONE: .. or something lies there." */
    private static void somethingLiesThere() {
        for (int lies = CAN; lies <= POST; lies++) {
            RainOffice o = new RainOffice();
            due("2 nothing lies there", o.put(3, lies, 1, 2, 4), 3);
            for (int kind = CAN; kind <= POST; kind++) due("2 " + lies + " lies there", o.put(3, kind, 5, 5, 4), NONE);
            due("2 it stays", o.look(3, 0), lies);
            o.lift(3);
            due("2 nothing lies there any more", o.put(3, POST - lies, 5, 5, 4), 3);
            due("2 the new one", o.look(3, 0), POST - lies);
            due("2 its x", o.look(3, 1), 5);
        }
    }

    /** Promise 3: "What lies in p goes, with all its readings: its KIND." */
    private static void goesWithItsReadings() {
        for (int kind = CAN; kind <= TWIN; kind++) {
            RainOffice o = oneOfEach();
            o.full(TIPPER, 7);
            o.read(kind, 9);
            o.melt(kind, 4);
            o.other(kind, 9);
            if (kind != STORE) o.hand(kind, 0, 5);
            due("3 kind " + kind, o.lift(kind), kind);
            o.put(kind, kind, kind, 0, 8);
            due("3 what lay is gone", o.look(kind, 5), 0);
            due("3 what was read is gone", o.raw(kind, 0), NONE);
            due("3 what was known is gone", o.known(kind, 0, 0), NONE);
            due("3 what it told is gone", o.state(kind, 0), 0);
            o.close();
            o.read(kind, 1);
            o.full(kind, 0);
            due("3 how full it was is gone", o.raw(TIPPER, 1), kind == TIPPER ? 8 : NONE);
        }
        RainOffice o = new RainOffice();
        o.put(0, TWIN, 0, 0, 4);
        o.hand(0, 0, 5);
        o.lift(0);
        o.put(0, TWIN, 0, 0, 4);
        o.read(0, 9);
        o.other(0, 1);
        due("3 it is BY HAND no more", o.why(0, 0), 3);
        o.lift(0);
        due("3 nothing", o.lift(0), NONE);
        o.put(0, POST, 0, 0, 0);
        due("3 a post", o.lift(0), POST);
        due("3 nothing any more", o.lift(0), NONE);
    }

    /** Promise 4: "0 KIND .. 5 what lies (SNOW; 0 of others). NONE for another what." */
    private static void looks() {
        RainOffice o = oneOfEach();
        o.full(TIPPER, 7);
        o.other(TWIN, 5);
        for (int p = CAN; p <= POST; p++) {
            o.read(p, 9);
            due("4 what -1 of " + p, o.look(p, -1), NONE);
            due("4 kind of " + p, o.look(p, 0), p);
            due("4 x of " + p, o.look(p, 1), p);
            due("4 y of " + p, o.look(p, 2), 0);
            due("4 size of " + p, o.look(p, 3), p == TIPPER || p == TWIN ? 4 : 0);
            due("4 first day of " + p, o.look(p, 4), 0);
            due("4 what lies on " + p, o.look(p, 5), p == SNOW ? 9 : 0);
            due("4 what 6 of " + p, o.look(p, 6), NONE);
            o.lift(p);
            for (int what = 0; what < 6; what++) due("4 of nothing, where " + p + " was", o.look(p, what), NONE);
        }
        for (int p : new int[] {-1, EMPTY, 16}) {
            for (int what = 0; what < 6; what++) due("4 of nothing " + p, o.look(p, what), NONE);
        }
    }

    /** Promise 5: "A GAUGE's READING v of TODAY (tenths 0 .. 5000, tips 0 .. 250)" */
    private static void readings() {
        for (int p = CAN; p <= TWIN; p++) {
            boolean tips = p == TIPPER || p == TWIN;
            int most = tips ? 250 : 5000;
            RainOffice o = oneOfEach();
            due("5 -1 of " + p, o.read(p, -1), NONE);
            due("5 not read by that " + p, o.number(p, 0), NONE);
            due("5 0 of " + p, o.read(p, 0), 1);
            due("5 most of " + p, o.read(p, most), 1);
            due("5 more of " + p, o.read(p, most + 1), NONE);
            o.other(p, most);
            o.melt(p, most);
            o.set(0, 5000);
            due("5 the most stays " + p, o.number(p, 0), tips ? 1000 : 5000);
        }
        due("5 a post", oneOfEach().read(POST, 0), WRONG);
        due("5 nothing", oneOfEach().read(EMPTY, 0), NONE);
    }

    /** Promise 5: "Of SNOW v is added to what lies, each time." */
    private static void snowLies() {
        RainOffice o = oneOfEach();
        o.read(SNOW, 0);
        due("5 0 lies", o.look(SNOW, 5), 0);
        o.read(SNOW, 5000);
        o.read(SNOW, 5000);
        due("5 10000 lie", o.look(SNOW, 5), 10_000);
        o.read(SNOW, 5001);
        o.read(SNOW, -1);
        due("5 no more, no less", o.look(SNOW, 5), 10_000);
        o.close();
        o.read(SNOW, 1);
        due("5 the next day, too", o.look(SNOW, 5), 10_001);
    }

    /** Promise 6: "How FULL a TIPPER is TODAY, 0 .. 7: 1. WRONG: another one (a TWIN, too)." */
    private static void fulls() {
        RainOffice o = oneOfEach();
        o.full(TIPPER, 0);
        o.close();
        o.read(TIPPER, 10);
        due("6 7", o.full(TIPPER, 7), 1);
        due("6 8", o.full(TIPPER, 8), NONE);
        due("6 still 7", o.raw(TIPPER, 1), 43);
        due("6 0", o.full(TIPPER, 0), 1);
        due("6 -1", o.full(TIPPER, -1), NONE);
        due("6 still 0", o.raw(TIPPER, 1), 40);
        for (int p : new int[] {CAN, SNOW, STORE, TWIN, POST}) due("6 kind " + p, o.full(p, 0), WRONG);
        due("6 nothing", o.full(EMPTY, 0), NONE);
    }

    /** Promise 7: "v more (1 .. 5000) .. there is not so much, or more than 5000 would MELT on this day" */
    private static void melts() {
        RainOffice o = oneOfEach();
        o.read(SNOW, 3);
        due("7 4 of 3", o.melt(SNOW, 4), NONE);
        due("7 0", o.melt(SNOW, 0), NONE);
        due("7 not read by that", o.raw(SNOW, 0), 0);
        due("7 1 of 3", o.melt(SNOW, 1), 2);
        due("7 3 of 2", o.melt(SNOW, 3), NONE);
        due("7 2 of 2", o.melt(SNOW, 2), 0);
        due("7 1 of 0", o.melt(SNOW, 1), NONE);
        due("7 all that melted", o.raw(SNOW, 0), 3);
        o.read(SNOW, 5000);
        o.read(SNOW, 5000);
        due("7 5001 on a day", o.melt(SNOW, 4998), NONE);
        due("7 5000 on a day", o.melt(SNOW, 4997), 5003);
        due("7 5001 on a day, by 1", o.melt(SNOW, 1), NONE);
        due("7 no more than that", o.raw(SNOW, 0), 5000);
        o.close();
        due("7 5001", o.melt(SNOW, 5001), NONE);
        due("7 5000", o.melt(SNOW, 5000), 3);
        for (int p : new int[] {CAN, TIPPER, STORE, TWIN, POST}) due("7 kind " + p, o.melt(p, 1), WRONG);
        due("7 nothing", o.melt(EMPTY, 1), NONE);
    }

    /** Promise 8: "A TWIN's OTHER reading of TODAY (0 .. 250): 1. WRONG: another one." */
    private static void others() {
        RainOffice o = oneOfEach();
        o.read(TWIN, 250);
        due("8 251", o.other(TWIN, 251), NONE);
        due("8 -1", o.other(TWIN, -1), NONE);
        due("8 not read by that", o.raw(TWIN, 0), NONE);
        due("8 0", o.other(TWIN, 0), 1);
        due("8 it is 0", o.raw(TWIN, 0), 500);
        due("8 250", o.other(TWIN, 250), 1);
        due("8 it is 250", o.raw(TWIN, 0), 1000);
        for (int p : new int[] {CAN, TIPPER, SNOW, STORE, POST}) due("8 kind " + p, o.other(p, 0), WRONG);
        due("8 nothing", o.other(EMPTY, 0), NONE);
    }

    /** Promise 9: "for a day (its first one .. TODAY, 55 at most)" */
    private static void handDays() {
        RainOffice o = new RainOffice();
        Scenes.closeUpTo(o, 3);
        o.put(0, CAN, 0, 0, 0);
        due("9 ahead of its first day", o.hand(0, 2, 1), NONE);
        due("9 its first day", o.hand(0, 3, 1), 1);
        due("9 behind today", o.hand(0, 4, 1), NONE);
        Scenes.closeUpTo(o, 5);
        due("9 a day between", o.hand(0, 4, 1), 2);
        due("9 today", o.hand(0, 5, 1), 3);
        due("9 behind today", o.hand(0, 6, 1), NONE);
        Scenes.closeUpTo(o, 55);
        due("9 55 today", o.hand(0, 55, 1), 4);
        due("9 56 tomorrow", o.hand(0, 56, 1), NONE);
        o.close();
        due("9 55 yesterday", o.hand(0, 55, 2), 5);
        due("9 56 today", o.hand(0, 56, 2), NONE);
        due("9 its first day still", o.hand(0, 3, 2), 6);
        due("9 ahead of it still", o.hand(0, 2, 2), NONE);
        due("9 day -1", o.hand(0, -1, 2), NONE);
    }

    /** Promise 9: "BY HAND v (0 .. 5000; NONE: not read)", "WRONG: a STORE, a POST." */
    private static void handValues() {
        for (int p : new int[] {CAN, TIPPER, SNOW, TWIN}) {
            RainOffice o = oneOfEach();
            due("9 5001", o.hand(p, 0, 5001), NONE);
            due("9 not put in", o.raw(p, 0), NONE);
            due("9 5000", o.hand(p, 0, 5000), 1);
            due("9 it is 5000", o.raw(p, 0), 5000);
            due("9 0", o.hand(p, 0, 0), 2);
            due("9 it is 0", o.raw(p, 0), 0);
            due("9 -2", o.hand(p, 0, -2), NONE);
            due("9 still 0", o.raw(p, 0), 0);
            due("9 NONE", o.hand(p, 0, NONE), 3);
            due("9 not read", o.raw(p, 0), NONE);
        }
        due("9 a store", oneOfEach().hand(STORE, 0, 0), WRONG);
        due("9 a post", oneOfEach().hand(POST, 0, 0), WRONG);
        due("9 nothing", oneOfEach().hand(EMPTY, 0, 0), NONE);
    }

    /** Promise 9: "how many were put in so far. NONE, too: .. or 100 were put in." */
    private static void handHundred() {
        RainOffice o = oneOfEach();
        int[] gauges = {CAN, TIPPER, SNOW, TWIN};
        for (int i = 1; i < 100; i++) {
            due("9 put in " + i, o.hand(gauges[i % 4], 0, i), i);
            due("9 one that can't be counts not", o.hand(gauges[i % 4], 1, i), NONE);
        }
        due("9 the hundredth", o.hand(CAN, 0, 777), 100);
        due("9 it counts", o.raw(CAN, 0), 777);
        for (int p : gauges) due("9 behind the hundredth", o.hand(p, 0, 3), NONE);
        due("9 the hundredth stays", o.raw(CAN, 0), 777);
        due("9 the one ahead of it stays", o.raw(TWIN, 0), 99);
        due("9 a store", o.hand(STORE, 0, 3), WRONG);
    }

    /** Promise 10: "TODAY ends: TODAY then. NONE, and nothing happens: it is 56." Promise 11: "TODAY." */
    private static void closes() {
        RainOffice o = new RainOffice();
        due("10 the first", o.close(), 1);
        due("11 then", o.today(), 1);
        Scenes.closeUpTo(o, 55);
        due("11 the last day", o.today(), 55);
        due("10 the last", o.close(), 56);
        due("10 none", o.close(), NONE);
        due("10 none again", o.close(), NONE);
        due("11 it stays", o.today(), 56);
    }

    /** Promise 12: "0 the GREATEST (0 .. 5000), 1 NEAR (0 .. 200), 2 WET (1 .. 5000), 3 the PART (0 .. 100), 4 + k" */
    private static void sets() {
        int[][] bounds = {{0, 0, 5000}, {1, 0, 200}, {2, 1, 5000}, {3, 0, 100}, {4, 0, 1000}, {5, 0, 1000},
            {6, 0, 1000}, {7, 0, 1000}, {8, 0, 1000}, {9, 0, 1000}, {10, 0, 1000}, {11, 0, 1000}};
        RainOffice o = new RainOffice();
        for (int[] b : bounds) {
            CHECK.due("12 below the least of " + b[0], o.set(b[0], b[1] - 1), false);
            CHECK.due("12 the least of " + b[0], o.set(b[0], b[1]), true);
            CHECK.due("12 the greatest of " + b[0], o.set(b[0], b[2]), true);
            CHECK.due("12 above the greatest of " + b[0], o.set(b[0], b[2] + 1), false);
        }
        CHECK.due("12 what -1", o.set(-1, 1), false);
        CHECK.due("12 what 12", o.set(12, 1), false);
    }

    /** Promises 13, 14: "The RAW number of a GAUGE and day." (DAYS are 0 .. 55) */
    private static void rawAndKnownDays() {
        RainOffice o = Scenes.cans(0, 0);
        o.put(1, STORE, 0, 0, 0);
        for (int day = 0; day < 56; day++) Scenes.day(o, 100 + day, 5);
        for (int day : new int[] {0, 1, 54, 55}) {
            due("13 day " + day, o.raw(0, day), 100 + day);
            due("14 day " + day, o.known(0, day, day), 100 + day);
            due("13 of a store, day " + day, o.raw(1, day), NONE);
            due("14 of a store, day " + day, o.known(1, day, 55), NONE);
        }
        for (int day : new int[] {-1, 56}) {
            due("13 no day " + day, o.raw(0, day), NONE);
            due("14 no day " + day, o.known(0, day, 55), NONE);
        }
    }

    /** Promise 14: "as it was known when a day ended (by readings and what was put in up to that day; ..)" */
    private static void knownWhenADayEnded() {
        RainOffice o = Scenes.cans(0, 0);
        o.close();
        o.read(0, 40);
        o.read(0, 50);
        due("14 now, on its own day", o.known(0, 1, 1), 50);
        due("14 the day ahead", o.known(0, 1, 0), NONE);
        o.close();
        due("14 when its own day ended", o.known(0, 1, 1), 50);
        o.hand(0, 1, 60);
        due("14 put in behind that", o.known(0, 1, 1), 50);
        due("14 a day that has not ended", o.known(0, 1, 2), 60);
        due("14 a day that has not begun", o.known(0, 1, 3), 60);
        due("14 the last day", o.known(0, 1, 55), 60);
        o.close();
        o.hand(0, 1, NONE);
        due("14 up to the day on which it was put in", o.known(0, 1, 2), 60);
        due("14 not read, as put in today", o.known(0, 1, 3), NONE);
        due("14 no day ends ahead of day 0", o.known(0, 0, -1), NONE);
        Scenes.closeUpTo(o, 55);
        o.read(0, 8);
        due("14 the last day, not ended", o.known(0, 55, 55), 8);
        due("14 the day ahead of it", o.known(0, 55, 54), NONE);
        o.close();
        o.hand(0, 55, 9);
        due("14 when the last day ended", o.known(0, 55, 55), 8);
        due("14 day 56 has not ended", o.known(0, 55, 56), 9);
    }

    /** Promises 15 to 17, of DAYS 0 .. 55 alone. */
    private static void daysOfQuestions() {
        RainOffice o = Scenes.cans(0, 0);
        o.put(1, STORE, 0, 0, 0);
        for (int day : new int[] {0, 55}) {
            Scenes.closeUpTo(o, day);
            due("15 not read, day " + day, o.why(0, day), 0);
            due("16 not read, day " + day, o.state(0, day), 0);
            due("17 not read, day " + day, o.number(0, day), NONE);
            o.read(0, 2001);
            o.read(1, 6);
            due("15 doubted, day " + day, o.why(0, day), 1);
            due("16 doubted, day " + day, o.state(0, day), 2);
            due("17 doubted, day " + day, o.number(0, day), 2001);
            due("15 a store, day " + day, o.why(1, day), 0);
            due("16 a store, day " + day, o.state(1, day), 4);
            due("17 a store, day " + day, o.number(1, day), 6);
        }
        for (int day : new int[] {-1, 56}) {
            for (int p = 0; p < 2; p++) {
                due("15 no day " + day, o.why(p, day), NONE);
                due("16 no day " + day, o.state(p, day), NONE);
                due("17 no day " + day, o.number(p, day), NONE);
            }
        }
    }

    /** Promise 18: "the PLACE of the i-th (0 .. 3) of those that count (also of a TRUSTED one); NONE. WRONG: a STORE." */
    private static void mendersByIndex() {
        RainOffice o = Scenes.cans(0, 0, 1, 0, 2, 0, 3, 0, 4, 0, 5, 0);
        o.put(6, STORE, 0, 0, 0);
        o.put(7, POST, 0, 0, 0);
        Scenes.closeUpTo(o, 55);
        for (int p = 1; p < 6; p++) o.read(p, p);
        int[] want = {NONE, 1, 2, 3, 4, NONE};
        for (int i = -1; i < 5; i++) due("18 of one not read " + i, o.from(0, 55, i), want[i + 1]);
        o.read(0, 9);
        for (int i = -1; i < 5; i++) due("18 of a trusted one " + i, o.from(0, 55, i), want[i + 1]);
        o.read(0, 2001);
        for (int i = -1; i < 5; i++) due("18 of a doubted one " + i, o.from(0, 55, i), want[i + 1]);
        due("18 day 54", o.from(0, 54, 0), NONE);
        due("18 day 56", o.from(0, 56, 0), NONE);
        due("18 day -1", o.from(0, -1, 0), NONE);
        due("18 a store", o.from(6, 55, 0), WRONG);
        due("18 a post", o.from(7, 55, 0), WRONG);
        due("18 nothing", o.from(8, 55, 0), NONE);
    }

    /** Promise 19: "To which GAUGE a square BELONGS on a day." */
    private static void partOfDays() {
        RainOffice o = Scenes.cans(0, 0);
        o.read(0, 0);
        Scenes.closeUpTo(o, 55);
        due("19 a day that is not read", o.part(0, 0, 55), NONE);
        o.read(0, 0);
        due("19 day 0", o.part(9, 9, 0), 0);
        due("19 day 1", o.part(9, 9, 1), NONE);
        due("19 day 55", o.part(9, 9, 55), 0);
        due("19 day -1", o.part(9, 9, -1), NONE);
        due("19 day 56", o.part(9, 9, 56), NONE);
    }

    /** Promise 20: "How many squares BELONG to a GAUGE on a day." */
    private static void squaresOfDays() {
        RainOffice o = Scenes.cans(0, 0, 0, 0, 9, 9);
        for (int day : new int[] {0, 55}) {
            Scenes.closeUpTo(o, day);
            due("20 none tells " + day, o.squares(0, day), 0);
            o.read(1, 4);
            due("20 all " + day, o.squares(1, day), 100);
            o.read(0, 4);
            due("20 all to the lesser place " + day, o.squares(0, day), 100);
            due("20 none to the other " + day, o.squares(1, day), 0);
            o.read(2, 4);
            due("20 the 45 nearer to 0, 0, and 10 like ones " + day, o.squares(0, day), 55);
            due("20 the 45 nearer to 9, 9 " + day, o.squares(2, day), 45);
        }
        for (int p = 0; p < 3; p++) {
            due("20 day -1 of " + p, o.squares(p, -1), NONE);
            due("20 day 56 of " + p, o.squares(p, 56), NONE);
        }
    }

    /** Promise 21: "A square comes to a VALLEY (in), or goes: how many it has; NONE: no such VALLEY or square." */
    private static void valleySquares() {
        RainOffice o = new RainOffice();
        for (int v : new int[] {0, 7}) {
            due("21 goes from an empty one " + v, o.valley(v, 0, 0, false), 0);
            for (int i = 0; i < 100; i++) due("21 comes to " + v, o.valley(v, i % 10, i / 10, true), i + 1);
            due("21 comes again to " + v, o.valley(v, 9, 9, true), 100);
            due("21 goes from " + v, o.valley(v, 9, 9, false), 99);
            due("21 goes again from " + v, o.valley(v, 9, 9, false), 99);
        }
        due("21 another one is empty still", o.valley(1, 9, 9, false), 0);
        due("21 valley -1", o.valley(-1, 0, 0, true), NONE);
        due("21 valley 8", o.valley(8, 0, 0, true), NONE);
    }

    /** Promises 22, 23: "NONE: no such VALLEY, it has no squares, or no GAUGE TELLS that day." */
    private static void rainAndMean() {
        RainOffice o = Scenes.cans(0, 0);
        o.read(0, 0);
        Scenes.closeUpTo(o, 55);
        o.read(0, 5);
        for (int v : new int[] {0, 7}) {
            due("22 no squares " + v, o.rain(v, 55), NONE);
            due("23 no squares " + v, o.mean(v, 55), NONE);
            o.valley(v, 3, 8, true);
            due("22 one square " + v, o.rain(v, 55), 5);
            due("23 one square " + v, o.mean(v, 55), 5000);
            due("22 no rain " + v, o.rain(v, 0), 0);
            due("23 no rain " + v, o.mean(v, 0), 0);
            for (int day : new int[] {-1, 1, 54, 56}) {
                due("22 none tells on " + day, o.rain(v, day), NONE);
                due("23 none tells on " + day, o.mean(v, day), NONE);
            }
            o.valley(v, 3, 8, false);
            due("22 no squares any more " + v, o.rain(v, 55), NONE);
            due("23 no squares any more " + v, o.mean(v, 55), NONE);
        }
        for (int v : new int[] {-1, 8}) {
            due("22 valley " + v, o.rain(v, 55), NONE);
            due("23 valley " + v, o.mean(v, 55), NONE);
        }
        RainOffice t = Scenes.cans(0, 0, 9, 9);
        t.read(0, 2);
        t.read(1, 3);
        for (int y = 0; y < 5; y++) t.valley(0, 0, y, true);
        t.valley(0, 9, 3, true);
        t.valley(0, 9, 2, true);
        due("22 square by square: five of 2, two of 3", t.rain(0, 0), 16);
        due("23 16 by 7, downwards", t.mean(0, 0), 2285);
    }

    /** Promise 24: "The FLOW of a VALLEY on a day, 0 .. 63; NONE: no such VALLEY or day." */
    private static void flowDays() {
        RainOffice o = Scenes.cans(0, 0);
        o.set(11, 1);
        for (int v : new int[] {0, 7}) o.valley(v, 0, 0, true);
        o.read(0, 6);
        Scenes.closeUpTo(o, 55);
        o.read(0, 9);
        for (int v : new int[] {0, 7}) {
            int[][] want = {{-1, NONE}, {0, 6}, {1, 0}, {7, 6}, {8, 0}, {55, 9}, {56, 0}, {62, 9}, {63, 0}, {64, NONE}};
            for (int[] w : want) due("24 valley " + v + " day " + w[0], o.flow(v, w[0]), w[1]);
        }
        due("24 a valley without squares", o.flow(1, 0), 0);
        due("24 valley -1", o.flow(-1, 0), NONE);
        due("24 valley 8", o.flow(8, 0), NONE);
    }

    /** Promise 25: "The first day from TODAY on, up to 63, on which the FLOW .. is above v; NONE if there is none" */
    private static void aheadOfLevels() {
        RainOffice o = Scenes.cans(0, 0);
        o.set(11, 2);
        for (int v : new int[] {0, 7}) o.valley(v, 0, 0, true);
        Scenes.closeUpTo(o, 55);
        o.read(0, 10);
        for (int v : new int[] {0, 7}) {
            due("25 above 9, today", o.ahead(v, 9), 55);
            due("25 above 10", o.ahead(v, 10), 62);
            due("25 above 19", o.ahead(v, 19), 62);
            due("25 above 20", o.ahead(v, 20), NONE);
            due("25 above -1", o.ahead(v, -1), 55);
        }
        o.close();
        due("25 above 9, from day 56 on", o.ahead(0, 9), 62);
        due("25 above -1, from day 56 on", o.ahead(0, -1), 56);
        due("25 no squares, above -1", o.ahead(1, -1), 56);
        due("25 no squares, above 0", o.ahead(1, 0), NONE);
        due("25 valley -1", o.ahead(-1, -1), NONE);
        due("25 valley 8", o.ahead(8, -1), NONE);
    }

    /** Promise 26: "A (what 0) or B (1) of a GAUGE and WEEK; NONE: no such week, another what. WRONG: a STORE, a POST." */
    private static void weeks() {
        RainOffice o = Scenes.cans(0, 0, 1, 1);
        o.put(STORE, STORE, 0, 0, 0);
        o.put(POST, POST, 0, 0, 0);
        for (int day : new int[] {0, 55}) {
            Scenes.closeUpTo(o, day);
            o.read(0, 3);
            o.read(1, 7);
        }
        for (int w : new int[] {0, 7}) {
            due("26 A of " + w, o.week(0, w, 0), 3);
            due("26 B of " + w, o.week(0, w, 1), 7);
            due("26 what -1 of " + w, o.week(0, w, -1), NONE);
            due("26 what 2 of " + w, o.week(0, w, 2), NONE);
            due("26 a store", o.week(STORE, w, 0), WRONG);
            due("26 a post", o.week(POST, w, 0), WRONG);
            due("26 nothing", o.week(EMPTY, w, 0), NONE);
        }
        for (int w = 1; w < 7; w++) due("26 a week that is not read " + w, o.week(0, w, 0) + o.week(0, w, 1), 0);
        for (int w : new int[] {-1, 8}) {
            due("26 A of " + w, o.week(0, w, 0), NONE);
            due("26 B of " + w, o.week(0, w, 1), NONE);
        }
    }

    /** Promises 27, 28: "NONE if there are not two whole weeks ahead of TODAY", "NONE for a w that can't be" */
    private static void wholeWeeks() {
        RainOffice o = Scenes.cans(0, 0, 1, 1);
        o.put(STORE, STORE, 0, 0, 0);
        o.put(POST, POST, 0, 0, 0);
        Scenes.closeUpTo(o, 13);
        due("27 day 13", o.cleft(0), NONE);
        due("28 day 13", o.misses(0, 1), NONE);
        due("27 a store on day 13", o.cleft(STORE), WRONG);
        due("28 a post on day 13", o.misses(POST, 1), WRONG);
        o.close();
        due("27 day 14", o.cleft(0), 1);
        due("28 w 0", o.misses(0, 0), NONE);
        due("28 w 1", o.misses(0, 1), 0);
        due("28 w 2", o.misses(0, 2), NONE);
        Scenes.closeUpTo(o, 55);
        due("28 w 6 on day 55", o.misses(0, 6), 0);
        due("28 w 7 on day 55", o.misses(0, 7), NONE);
        o.close();
        due("28 w 7 on day 56", o.misses(0, 7), 0);
        due("28 w 8 on day 56", o.misses(0, 8), NONE);
        due("28 w -1", o.misses(0, -1), NONE);
        due("27 a post", o.cleft(POST), WRONG);
        due("28 a store", o.misses(STORE, 1), WRONG);
        due("27 nothing", o.cleft(EMPTY), NONE);
        due("28 nothing", o.misses(EMPTY, 1), NONE);
    }
}
