/** Promises 13 to 18: RAW, known and DOUBTED numbers, STATES, MENDED and SPREAD numbers. */
public final class DayPromisesTest {
    private static final int NONE = RainOffice.NONE;
    private static final int WRONG = RainOffice.WRONG;
    private static final int CAN = 0, TIPPER = 1, SNOW = 2, STORE = 3, TWIN = 4, POST = 5;
    private static final Check CHECK = new Check();

    private static void due(String what, long got, long want) { CHECK.due(what, got, want); }

    public static void main(String[] args) {
        rawOfKinds();
        rawOfTipper();
        known();
        knownBehindManyEntries();
        tooMuch();
        dryAmongWet();
        unlikeTwin();
        firstRuleCounts();
        states();
        dryInAnyPlace();
        mendedByNearness();
        mendedByNearAndFar();
        mendedBySums();
        mendedByFourNearest();
        greatestMended();
        from();
        spread();
        spreadRests();
        spreadByNearest();
        spreadWithoutTeller();
        spreadSinceLastReading();
        wrongPlaces();
        noSuchDay();
        lastDayAndDaysToCome();
        wrongPlaceAndNoSuchDay();
        CHECK.end("DayPromisesTest");
    }

    private static void rawOfKinds() {
        RainOffice o = new RainOffice();
        o.put(0, CAN, 0, 0, 0);
        o.put(1, TIPPER, 0, 0, 7);
        o.put(2, SNOW, 0, 0, 0);
        o.put(3, STORE, 0, 0, 0);
        o.put(4, TWIN, 0, 0, 3);
        for (int p = 0; p < 5; p++) due("13 not read " + p, o.raw(p, 0), NONE);
        o.read(0, 33);
        o.read(1, 5);
        o.read(2, 60);
        o.read(3, 70);
        o.read(4, 4);
        due("13 can", o.raw(0, 0), 33);
        due("13 tipper", o.raw(1, 0), 35);
        due("13 snow that fell", o.raw(2, 0), 0);
        due("13 store", o.raw(3, 0), NONE);
        due("13 twin without the other", o.raw(4, 0), NONE);
        o.melt(2, 15);
        due("17 snow that melted", o.number(2, 0), 15);
        o.melt(2, 6);
        due("17 snow that melted further", o.number(2, 0), 21);
        o.other(4, 5);
        due("13 snow that melted", o.raw(2, 0), 21);
        due("13 twin: 9 times 3 by 2", o.raw(4, 0), 13);
        o.close();
        o.other(4, 5);
        due("13 twin with the other alone", o.raw(4, 1), NONE);
        due("13 yesterday stays", o.raw(0, 0), 33);
        due("13 today is not read", o.raw(0, 1), NONE);
    }

    private static void rawOfTipper() {
        RainOffice o = new RainOffice();
        o.put(0, TIPPER, 0, 0, 10);
        o.full(0, 2);
        o.read(0, 3);
        due("13 full on its first day", o.raw(0, 0), 30);
        o.close();
        o.read(0, 3);
        due("13 full yesterday alone", o.raw(0, 1), 30);
        o.full(0, 7);
        due("13 more: 50 by 8 is 6", o.raw(0, 1), 36);
        o.close();
        o.read(0, 1);
        o.full(0, 4);
        due("13 less: -30 by 8 is -3", o.raw(0, 2), 7);
        o.close();
        o.read(0, 0);
        o.full(0, 0);
        due("13 below 0", o.raw(0, 3), 0);
        o.close();
        o.full(0, 7);
        due("13 not read", o.raw(0, 4), NONE);
        o.close();
        o.read(0, 0);
        o.full(0, 6);
        due("13 -10 by 8 is -1, below 0", o.raw(0, 5), 0);
        o.close();
        o.close();
        o.read(0, 2);
        o.full(0, 0);
        due("13 not told on the day ahead", o.raw(0, 7), 20);
    }

    private static void known() {
        RainOffice o = Scenes.cans(0, 0);
        o.read(0, 50);
        due("14 today: as it is now", o.known(0, 0, 0), 50);
        due("14 no day ends ahead of day 0", o.known(0, 0, -1), NONE);
        o.close();
        o.hand(0, 0, 60);
        o.hand(0, 0, 61);
        o.close();
        o.hand(0, 0, NONE);
        o.close();
        o.hand(0, 0, 70);
        due("14 by the reading", o.known(0, 0, 0), 50);
        due("14 put in on day 1, the latest", o.known(0, 0, 1), 61);
        due("14 put in as not read", o.known(0, 0, 2), NONE);
        due("14 now", o.known(0, 0, 3), 70);
        due("14 a day to come", o.known(0, 0, 55), 70);
        due("14 raw", o.raw(0, 0), 70);
        o.read(0, 9);
        due("14 not known on days ahead", o.known(0, 3, 2), NONE);
        due("14 known today", o.known(0, 3, 3), 9);
        Scenes.closeUpTo(o, 56);
        o.hand(0, 55, 4);
        due("14 put in after the last day", o.known(0, 55, 55), NONE);
        due("14 and known now", o.raw(0, 55), 4);
    }

    private static void knownBehindManyEntries() {
        RainOffice o = Scenes.cans(0, 0);
        o.hand(0, 0, 7);
        o.close();
        for (int i = 1; i < 100; i++) o.hand(0, 0, 100 + i);
        due("14 the first of 100", o.known(0, 0, 0), 7);
        due("14 the last of 100", o.known(0, 0, 1), 199);
    }

    private static void tooMuch() {
        RainOffice o = Scenes.cans(0, 0);
        o.read(0, 2000);
        due("15 the greatest", o.why(0, 0), 0);
        o.read(0, 2001);
        due("15 above it", o.why(0, 0), 1);
        o.hand(0, 0, 5000);
        due("15 by hand, too", o.why(0, 0), 1);
        o.set(0, 5000);
        due("15 a greater one", o.why(0, 0), 0);
        due("15 not read", o.why(0, 1), 0);
    }

    private static void dryAmongWet() {
        RainOffice o = Scenes.cans(5, 5, 5, 7, 3, 5, 7, 6);
        o.read(0, 0);
        due("15 alone", o.why(0, 0), 0);
        o.read(1, 10);
        due("15 one wet", o.why(0, 0), 0);
        o.read(3, 900);
        due("15 another at 5", o.why(0, 0), 0);
        o.read(2, 10);
        due("15 two at 4, wet", o.why(0, 0), 2);
        o.read(2, 9);
        due("15 one not wet", o.why(0, 0), 0);
        o.set(1, 5);
        due("15 all must be wet", o.why(0, 0), 0);
        o.set(2, 9);
        due("15 wet from 9", o.why(0, 0), 2);
        o.read(0, 1);
        due("15 not 0", o.why(0, 0), 0);
        o.read(0, 0);
        o.read(2, 3000);
        due("15 by doubted raw numbers, too", o.why(0, 0), 2);
        o.hand(1, 0, NONE);
        o.hand(3, 0, NONE);
        due("15 one has a number", o.why(0, 0), 0);
        o.hand(0, 0, 0);
        o.hand(3, 0, 10);
        due("15 0 by hand", o.why(0, 0), 2);
        o.set(1, 3);
        due("15 not so near", o.why(0, 0), 0);
    }

    private static void dryInAnyPlace() {
        RainOffice o = Scenes.cans(0, 0, 0, 1, 1, 0);
        Scenes.day(o, 10, 0, 10);
        due("15 the first place is wet", o.why(1, 0), 2);
        Scenes.day(o, 0, 10, 10);
        due("15 the first place is dry", o.why(0, 1), 2);
        Scenes.day(o, 10, 10, 0);
        due("15 the last place is dry", o.why(2, 2), 2);
    }

    private static void unlikeTwin() {
        RainOffice o = new RainOffice();
        o.put(0, TWIN, 0, 0, 2);
        o.read(0, 100);
        due("15 the other is missing", o.why(0, 0), 0);
        o.other(0, 80);
        due("15 20 of 100", o.why(0, 0), 0);
        o.other(0, 79);
        due("15 21 of 100", o.why(0, 0), 3);
        o.other(0, 125);
        due("15 25 of 125", o.why(0, 0), 0);
        o.other(0, 126);
        due("15 26 of 126", o.why(0, 0), 3);
        o.set(3, 100);
        o.other(0, 0);
        due("15 all of it", o.why(0, 0), 0);
        o.set(3, 99);
        due("15 more than 99 percent", o.why(0, 0), 3);
        o.hand(0, 0, 40);
        due("15 not by hand", o.why(0, 0), 0);
        o.set(3, 0);
        o.close();
        o.read(0, 5);
        o.other(0, 5);
        due("15 alike", o.why(0, 1), 0);
    }

    private static void firstRuleCounts() {
        RainOffice o = new RainOffice();
        o.put(0, TWIN, 0, 0, 20);
        o.put(1, CAN, 0, 0, 0);
        o.put(2, CAN, 0, 0, 0);
        o.read(0, 250);
        o.other(0, 100);
        due("15 rule 1 ahead of 3", o.why(0, 0), 1);
        o.close();
        o.put(3, TWIN, 0, 0, 1);
        o.read(3, 1);
        o.other(3, 0);
        due("15 0, unlike", o.why(3, 1), 3);
        o.read(1, 50);
        o.read(2, 50);
        due("15 rule 2 ahead of 3", o.why(3, 1), 2);
    }

    private static void states() {
        RainOffice o = Scenes.cans(0, 0, 9, 9);
        due("16 not read", o.state(0, 0), 0);
        due("17 none", o.number(0, 0), NONE);
        o.read(0, 10);
        due("16 trusted", o.state(0, 0), 1);
        due("17 trusted", o.number(0, 0), 10);
        due("16 not read, mended", o.state(1, 0), 3);
        due("17 mended", o.number(1, 0), 10);
        o.read(0, 2500);
        due("16 doubted", o.state(0, 0), 2);
        due("17 its raw number", o.number(0, 0), 2500);
        due("16 none to mend by", o.state(1, 0), 0);
        o.read(1, 30);
        due("16 doubted, mended", o.state(0, 0), 3);
        due("17 mended again", o.number(0, 0), 30);
        o.close();
        o.put(2, CAN, 0, 1, 0);
        due("16 ahead of its first day", o.state(2, 0), 0);
        due("17 ahead of its first day", o.number(2, 0), NONE);
        o.put(3, STORE, 0, 1, 0);
        o.read(0, 5);
        due("16 a store is not mended", o.state(3, 1), 0);
        due("17 a store has no number", o.number(3, 1), NONE);
        due("16 on its first day", o.state(2, 1), 3);
    }

    private static void mendedByNearness() {
        RainOffice o = Scenes.cans(0, 0, 0, 0, 3, 0, 9, 9);
        Scenes.day(o, NONE, 100, 10, 1);
        due("17 288 at 0, 16 at 9, 1 at 162", o.number(0, 0), (288 * 100 + 16 * 10 + 1) / 305);
        Scenes.day(o, NONE, NONE, 10, 1);
        due("17 16 at 9, 1 at 162", o.number(0, 1), 161 / 17);
    }

    private static void mendedByNearAndFar() {
        RainOffice o = Scenes.cans(0, 0, 0, 0, 1, 0, 9, 9, 8, 9);
        Scenes.day(o, NONE, 1000, 0, NONE, NONE);
        due("17 288 at 0, 144 at 1", o.number(0, 0), 288_000 / 432);
        Scenes.day(o, NONE, NONE, 0, 1000, NONE);
        due("17 144 at 1, 1 at 162", o.number(0, 1), 1000 / 145);
        Scenes.day(o, NONE, NONE, 0, NONE, 1000);
        due("17 144 at 1, 1 at 145", o.number(0, 2), 1000 / 145);
        RainOffice t = Scenes.cans(0, 0, 2, 3, 2, 2);
        Scenes.day(t, NONE, 1000, 0);
        due("17 11 at 13, 18 at 8", t.number(0, 0), 11_000 / 29);
        RainOffice b = Scenes.cans(0, 0, 2, 3);
        Scenes.day(b, 7, 1);
        Scenes.day(b, NONE, 3);
        due("17 B is 1", b.number(0, 1), 21);
    }

    private static void mendedBySums() {
        RainOffice o = Scenes.cans(0, 0, 1, 0);
        Scenes.day(o, 20, 30);
        Scenes.day(o, NONE, 90);
        due("17 90 times 20 by 30", o.number(0, 1), 60);
        o.hand(1, 0, 37);
        due("17 90 times 20 by 37: 48648 thousandths", o.number(0, 1), 48);
        o.read(1, 7);
        due("17 today: 7 times 20 by 37", o.number(0, 2), 3);
        o.read(0, 500);
        due("17 today's numbers are not summed", o.number(0, 1), 48);
        o.close();
        due("17 ended days are: 90 times 520 by 44", o.number(0, 1), 1063);
        o.hand(1, 0, 0);
        o.hand(1, 2, 0);
        due("17 B is 0", o.number(0, 1), 90);
        o.hand(1, 2, 5);
        o.hand(0, 2, 0);
        o.hand(0, 0, 0);
        due("17 A is 0", o.number(0, 1), 0);
        RainOffice t = Scenes.cans(0, 0, 1, 0, 0, 1);
        Scenes.day(t, 1, 3, 3);
        Scenes.day(t, NONE, 1, 2);
        due("17 333 and 666 thousandths", t.number(0, 1), 0);
        Scenes.day(t, NONE, 4, 2);
        due("17 both divisions at once: 1333 and 666", t.number(0, 2), 0);
        Scenes.day(t, NONE, 4, 3);
        due("17 1333 and 1000", t.number(0, 3), 1);
    }

    private static void mendedByFourNearest() {
        RainOffice o = Scenes.cans(5, 5, 5, 6, 6, 5, 5, 4, 4, 5, 5, 3);
        Scenes.day(o, NONE, 10, 20, 30, 40, 5000);
        due("17 the four nearest", o.number(0, 0), 25);
        o.set(0, 35);
        due("17 of those that are trusted", o.number(0, 0), 20);
        o.hand(5, 0, 34);
        due("17 the fifth in place of a doubted one", o.number(0, 0), (144 * 60 + 36 * 34) / (144 * 3 + 36));
    }

    private static void greatestMended() {
        RainOffice o = Scenes.cans(0, 0, 0, 0);
        o.set(0, 5000);
        for (int day = 0; day < 55; day++) Scenes.day(o, 5000, day == 3 ? 1 : 0);
        o.read(1, 5000);
        due("17 5000 times 275000 by 1", o.number(0, 55), 1_375_000_000);
        o.hand(1, 3, 5000);
        due("17 5000 times 275000 by 5000", o.number(0, 55), 275_000);
        o.hand(1, 3, 0);
        due("17 5000, as B is 0", o.number(0, 55), 5000);
    }

    private static void from() {
        RainOffice o = Scenes.cans(5, 5, 9, 9, 5, 7, 7, 5, 5, 6, 0, 0);
        o.put(6, STORE, 5, 5, 0);
        o.put(7, POST, 5, 5, 0);
        Scenes.day(o, NONE, 1, 2, 3, 4, 5, 6);
        int[] want = {4, 2, 3, 1, NONE};
        for (int i = 0; i < 5; i++) due("18 by nearness, then place " + i, o.from(0, 0, i), want[i]);
        due("18 i -1", o.from(0, 0, -1), NONE);
        due("18 of a trusted one", o.from(2, 0, 0), 4);
        due("18 store", o.from(6, 0, 0), WRONG);
        due("18 post", o.from(7, 0, 0), WRONG);
        due("18 nothing", o.from(8, 0, 0), NONE);
        o.put(8, CAN, 5, 5, 0);
        due("18 ahead of its first day", o.from(8, 0, 0), NONE);
        due("18 a day to come", o.from(0, 1, 0), NONE);
        due("18 the last day", o.from(0, 55, 0), NONE);
        o.lift(4);
        due("18 what is lifted counts no more", o.from(0, 0, 0), 2);
    }

    private static void spread() {
        RainOffice o = Scenes.cans(1, 1, 9, 9);
        o.put(2, STORE, 0, 0, 0);
        Scenes.day(o, 10, 5);
        Scenes.day(o, 20, 5);
        o.read(0, 30);
        o.read(1, 5);
        due("16 not read yet", o.state(2, 0), 0);
        o.read(2, 120);
        int[] parts = {20, 40, 60};
        for (int d = 0; d < 3; d++) {
            due("16 spread " + d, o.state(2, d), 4);
            due("17 spread " + d, o.number(2, d), parts[d]);
        }
        due("16 the day behind", o.state(2, 3), 0);
        o.read(2, 60);
        due("17 a reading of the same day counts anew", o.number(2, 0), 10);
        o.hand(0, 1, NONE);
        due("17 the nearest trusted on all days", o.number(2, 0), 20);
        due("15 of a store", o.why(2, 0), 0);
        due("13 of a store", o.raw(2, 2), NONE);
        due("14 of a store", o.known(2, 2, 2), NONE);
    }

    private static void spreadRests() {
        RainOffice o = Scenes.cans(1, 1);
        o.put(1, STORE, 0, 0, 0);
        int[] teller = {3, 0, 2, 4};
        for (int d = 0; d < 4; d++) Scenes.day(o, teller[d]);
        o.hand(0, 3, 0);
        o.hand(0, 3, 4);
        o.read(0, 0);
        parts(o, 10, 3, 0, 2, 5, 0);
        parts(o, 11, 4, 0, 2, 5, 0);
        parts(o, 5, 2, 0, 1, 2, 0);
        parts(o, 9, 3, 0, 2, 4, 0);
        parts(o, 1, 0, 0, 0, 1, 0);
        parts(o, 0, 0, 0, 0, 0, 0);
        o.hand(0, 0, 2);
        parts(o, 2, 1, 0, 0, 1, 0);
        parts(o, 3, 1, 0, 1, 1, 0);
        parts(o, 5000, 1250, 0, 1250, 2500, 0);
        o.hand(0, 4, 1);
        parts(o, 5, 1, 0, 1, 2, 1);
        RainOffice one = Scenes.cans(1, 1);
        one.put(1, STORE, 0, 0, 0);
        Scenes.day(one, 1);
        one.read(0, 0);
        parts(one, 5, 5, 0);
        one.hand(0, 1, 3);
        parts(one, 1, 0, 1);
    }

    /** The store in place 1 is read today, and spreads so to the days from day 0 on. */
    private static void parts(RainOffice o, int v, int... want) {
        o.read(1, v);
        for (int d = 0; d < want.length; d++) due("17 day " + d + " of " + v, o.number(1, d), want[d]);
    }

    private static void spreadByNearest() {
        RainOffice o = new RainOffice();
        o.put(0, STORE, 0, 0, 0);
        o.put(1, CAN, 9, 9, 0);
        o.put(2, CAN, 1, 1, 0);
        o.put(3, CAN, 3, 3, 0);
        o.put(4, CAN, 1, 1, 0);
        Scenes.day(o, NONE, 1, 2, 3, 1);
        Scenes.day(o, 60, 1, 1, 1, 5);
        due("17 not the first, not the last", o.number(0, 0), 40);
        o.hand(2, 1, NONE);
        due("17 it has none of the last day, so the other on its square", o.number(0, 0), 10);
        o.hand(4, 0, NONE);
        due("17 it has none of the first day", o.number(0, 0), 45);
        o.hand(3, 0, 3000);
        due("17 doubted on a day", o.number(0, 0), 30);
    }

    private static void spreadWithoutTeller() {
        RainOffice o = Scenes.cans(1, 1, 9, 9);
        o.put(2, STORE, 0, 0, 0);
        Scenes.day(o, 0, 4);
        o.read(0, 0);
        o.read(1, 4);
        o.read(2, 50);
        due("17 T is 0: nothing", o.number(2, 0), 0);
        due("16 but told", o.state(2, 0), 4);
        due("17 T is 0: all to the last day", o.number(2, 1), 50);
        o.lift(0);
        due("17 the other one", o.number(2, 0), 25);
        o.lift(1);
        due("17 no gauge: nothing", o.number(2, 0), 0);
        due("17 no gauge: all to the last day", o.number(2, 1), 50);
    }

    private static void spreadSinceLastReading() {
        RainOffice o = Scenes.cans(1, 1);
        Scenes.day(o, 500);
        o.put(1, STORE, 0, 0, 0);
        Scenes.day(o, 10, NONE);
        Scenes.day(o, 10, 8);
        Scenes.day(o, 20, NONE);
        Scenes.day(o, 40, NONE);
        o.read(0, 20);
        o.read(1, 40);
        int[] parts = {NONE, 4, 4, 10, 20, 10};
        for (int d = 0; d < 6; d++) due("17 since its first day, then the last reading: " + d, o.number(1, d), parts[d]);
        due("16 ahead of its first day", o.state(1, 0), 0);
    }

    private static void wrongPlaces() {
        RainOffice o = new RainOffice();
        o.put(0, POST, 0, 0, 0);
        due("13 post", o.raw(0, 99), WRONG);
        due("14 post", o.known(0, 0, 0), WRONG);
        due("15 post", o.why(0, 0), WRONG);
        due("16 post", o.state(0, 0), WRONG);
        due("17 post", o.number(0, 0), WRONG);
        for (int p : new int[] {-1, 1, 16, Integer.MAX_VALUE, Integer.MIN_VALUE}) {
            due("13 nothing", o.raw(p, 0), NONE);
            due("14 nothing", o.known(p, 0, 0), NONE);
            due("15 nothing", o.why(p, 0), NONE);
            due("16 nothing", o.state(p, 0), NONE);
            due("17 nothing", o.number(p, 0), NONE);
            due("18 nothing", o.from(p, 0, 0), NONE);
        }
    }

    private static final int[] NO_DAYS = {-1, -2, 56, 63, Integer.MAX_VALUE, Integer.MIN_VALUE};

    private static void noSuchDay() {
        RainOffice o = Scenes.cans(0, 0, 1, 1);
        o.put(2, STORE, 2, 2, 0);
        Scenes.day(o, 1, 3000, 5);
        for (int day : NO_DAYS) {
            for (int p = 0; p < 3; p++) {
                due("13 no day " + day, o.raw(p, day), NONE);
                due("14 no day " + day, o.known(p, day, 0), NONE);
                due("15 no day " + day, o.why(p, day), NONE);
                due("16 no day " + day, o.state(p, day), NONE);
                due("17 no day " + day, o.number(p, day), NONE);
            }
            due("18 no day " + day, o.from(0, day, 0), NONE);
        }
    }

    private static void lastDayAndDaysToCome() {
        RainOffice o = Scenes.cans(0, 0);
        o.put(1, STORE, 2, 2, 0);
        for (int day : new int[] {1, 55}) {
            for (int p = 0; p < 2; p++) {
                due("15 a day that is to come " + day, o.why(p, day), 0);
                due("16 a day that is to come " + day, o.state(p, day), 0);
            }
        }
        Scenes.closeUpTo(o, 55);
        Scenes.day(o, 3000, 0);
        due("15 the last day", o.why(0, 55), 1);
        due("16 the last day", o.state(0, 55), 2);
        due("16 the last day of a store", o.state(1, 55), 4);
    }

    private static void wrongPlaceAndNoSuchDay() {
        RainOffice o = new RainOffice();
        o.put(0, POST, 0, 0, 0);
        for (int day : NO_DAYS) {
            due("13 post, no day " + day, o.raw(0, day), WRONG);
            due("14 post, no day " + day, o.known(0, day, 0), WRONG);
            due("15 post, no day " + day, o.why(0, day), WRONG);
            due("16 post, no day " + day, o.state(0, day), WRONG);
            due("17 post, no day " + day, o.number(0, day), WRONG);
            due("18 post, no day " + day, o.from(0, day, 0), WRONG);
            due("15 nothing, no day " + day, o.why(1, day), NONE);
            due("16 nothing, no day " + day, o.state(1, day), NONE);
        }
    }
}
