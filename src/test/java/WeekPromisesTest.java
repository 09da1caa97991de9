/** Promises 26 to 28: WEEKS, the BREAK and what its PARTS come to. */
public final class WeekPromisesTest {
    private static final int NONE = RainOffice.NONE;
    private static final int WRONG = RainOffice.WRONG;
    private static final int CAN = 0, STORE = 3, POST = 5;
    private static final Check CHECK = new Check();

    private static void due(String what, long got, long want) { CHECK.due(what, got, want); }

    public static void main(String[] args) {
        weeks();
        weeksOfFourNeighbours();
        weeksAlone();
        unequalParts();
        likeBreaks();
        noSumOfNeighbours();
        wholeWeeks();
        lastWeek();
        greatestMisses();
        wrongPlaces();
        CHECK.end("WeekPromisesTest");
    }

    /** A week in which each place is read once, on its first day, and 0 on the others. */
    private static void week(RainOffice o, int... v) {
        Scenes.day(o, v);
        for (int d = 1; d < 7; d++) Scenes.day(o, new int[v.length]);
    }

    private static void weeks() {
        RainOffice o = Scenes.cans(0, 0, 9, 9, 0, 9);
        Scenes.day(o, 1, 10, 100);
        Scenes.day(o, 2, 20, NONE);
        Scenes.day(o, NONE, 30, 300);
        Scenes.day(o, 4, 40, 2001);
        o.read(0, 5);
        o.read(1, 50);
        o.read(2, 500);
        due("26 A", o.week(0, 0, 0), 6);
        due("26 B", o.week(0, 0, 1), 660);
        due("26 A of another", o.week(2, 0, 0), 600);
        due("26 a week to come", o.week(0, 1, 0), 0);
        due("26 the last", o.week(0, 7, 1), 0);
        due("26 week -1", o.week(0, -1, 0), NONE);
        due("26 week 8", o.week(0, 8, 0), NONE);
        due("26 what -1", o.week(0, 0, -1), NONE);
        due("26 what 2", o.week(0, 0, 2), NONE);
        o.put(3, STORE, 0, 0, 0);
        due("26 a store counts not", o.week(0, 0, 1), 660);
        o.put(4, POST, 0, 0, 0);
        due("26 a post counts not", o.week(0, 0, 1), 660);
        o.put(5, CAN, 5, 5, 0);
        due("26 a new one was not read", o.week(0, 0, 1), 0);
    }

    private static void weeksOfFourNeighbours() {
        RainOffice o = Scenes.cans(5, 5, 9, 9, 5, 6, 5, 7, 5, 8, 5, 2, 0, 0);
        for (int d = 0; d < 7; d++) Scenes.day(o, 1, NONE, 2, 3, 4, 5, NONE);
        Scenes.day(o, 1, 9, 2, 3, 4, 5, 9);
        due("26 the four nearest alone", o.week(0, 0, 0), 7);
        due("26 their sum", o.week(0, 0, 1), 7 * 14);
        due("26 week 1 begins on day 7", o.week(0, 1, 1), 14);
        due("26 of another one", o.week(1, 0, 0), 0);
        o.lift(5);
        due("26 then the fifth", o.week(0, 0, 0), 0);
        due("26 on the day on which it is read", o.week(0, 1, 1), 2 + 3 + 4 + 9);
    }

    private static void weeksAlone() {
        RainOffice o = Scenes.cans(0, 0);
        week(o, 10);
        week(o, 30);
        due("26 all neighbours of none are trusted", o.week(0, 1, 0), 30);
        due("26 and sum up to 0", o.week(0, 1, 1), 0);
        due("28 the amounts of A", o.misses(0, 1), 40_000);
    }

    private static void unequalParts() {
        RainOffice o = Scenes.cans(0, 0, 1, 1);
        week(o, 10, 10);
        week(o, 11, 13);
        week(o, 40, 20);
        week(o, 41, 21);
        o.close();
        // weeks 0 .. 1: SA 21, SB 23: |230 - 210| + |253 - 273| = 40; weeks 2 .. 3: SA 81, SB 41: 20 + 20 = 40
        due("28 1739 and 975", o.misses(0, 2), 40_000 / 23 + 40_000 / 41);
        // week 0 alone: 0; weeks 1 .. 3: SA 92, SB 54: |594 - 1196| + |2160 - 1840| + |2214 - 1932| = 1204
        due("28 one week has none", o.misses(0, 1), 1_204_000 / 54);
        // weeks 0 .. 2: SA 61, SB 43: |430 - 610| + |473 - 793| + |1720 - 1220| = 1000; week 3 alone: 0
        due("28 three weeks", o.misses(0, 3), 1_000_000 / 43);
        due("27 the least", o.cleft(0), 2);
        due("28 w 0", o.misses(0, 0), NONE);
        due("28 w 4", o.misses(0, 4), NONE);
        due("28 w below", o.misses(0, Integer.MIN_VALUE), NONE);
        due("28 w above", o.misses(0, Integer.MAX_VALUE), NONE);
    }

    private static void likeBreaks() {
        RainOffice o = Scenes.cans(0, 0, 1, 1);
        for (int w = 0; w < 4; w++) week(o, 10, 5);
        for (int w = 1; w < 4; w++) due("28 like " + w, o.misses(0, w), 0);
        due("27 the first of like ones", o.cleft(0), 1);
        o.hand(0, 27, 30);
        due("27 a break ahead of the last week", o.cleft(0), 3);
    }

    private static void noSumOfNeighbours() {
        RainOffice o = Scenes.cans(0, 0, 1, 1);
        week(o, 10, 0);
        week(o, 20, 0);
        week(o, 30, 10);
        due("28 SB 0: the amounts of A", o.misses(0, 2), 30_000);
        due("28 SB 0 in one part: |20 * 10 - 0| + |300 - 500| by 10", o.misses(0, 1), 10_000 + 40_000);
        due("27 the lesser", o.cleft(0), 2);
    }

    private static void wholeWeeks() {
        RainOffice o = Scenes.cans(0, 0, 1, 1);
        due("27 no week", o.cleft(0), NONE);
        week(o, 1, 1);
        due("27 one whole week", o.cleft(0), NONE);
        due("28 one whole week", o.misses(0, 1), NONE);
        for (int d = 0; d < 6; d++) Scenes.day(o, 1, 1);
        o.read(0, 1);
        o.read(1, 1);
        due("27 the second has not ended", o.cleft(0), NONE);
        due("28 the second has not ended", o.misses(0, 1), NONE);
        o.close();
        due("27 two whole weeks", o.cleft(0), 1);
        due("28 two whole weeks", o.misses(0, 1), 0);
        due("28 not a third", o.misses(0, 2), NONE);
    }

    private static void lastWeek() {
        RainOffice o = Scenes.cans(0, 0, 1, 1);
        for (int w = 0; w < 8; w++) week(o, w < 7 ? 10 : 90, 10);
        due("today", o.today(), 56);
        due("27 the last week of all", o.cleft(0), 7);
        due("28 the last week of all", o.misses(0, 7), 0);
        due("28 w 8", o.misses(0, 8), NONE);
        due("26 week 7", o.week(0, 7, 0), 90);
    }

    private static void greatestMisses() {
        RainOffice o = Scenes.cans(0, 0, 0, 5, 5, 0, 5, 5, 9, 9);
        o.set(0, 5000);
        o.set(1, 0);
        for (int day = 0; day < 56; day++) {
            if (day / 7 % 2 == 0) Scenes.day(o, 5000, 0, 0, 0, 0);
            else Scenes.day(o, 0, 5000, 5000, 5000, 5000);
        }
        due("26 A of an even week", o.week(0, 6, 0), 35_000);
        due("26 B of an odd week", o.week(0, 7, 1), 140_000);
        // weeks 0 .. 3 and 4 .. 7 alike: 35000 in each even week, 140000 times 70000 by 280000 in each odd one
        due("28 eight weeks of 35000", o.misses(0, 4), 280_000_000);
        // week 0 has no B: 35000; weeks 1 .. 7: three of 35000, four of 140000 times 105000 by 560000
        due("28 35000 and 210000", o.misses(0, 1), 245_000_000);
        due("27 the least", o.cleft(0), 1);
    }

    private static void wrongPlaces() {
        RainOffice o = new RainOffice();
        o.put(0, STORE, 0, 0, 0);
        o.put(1, POST, 0, 0, 0);
        for (int p = 0; p < 2; p++) {
            due("26 wrong " + p, o.week(p, 9, 9), WRONG);
            due("27 wrong " + p, o.cleft(p), WRONG);
            due("28 wrong " + p, o.misses(p, 0), WRONG);
        }
        for (int p : new int[] {-1, 2, 16}) {
            due("26 nothing " + p, o.week(p, 0, 0), NONE);
            due("27 nothing " + p, o.cleft(p), NONE);
            due("28 nothing " + p, o.misses(p, 1), NONE);
        }
    }
}
