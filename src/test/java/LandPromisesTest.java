/** Promises 19 to 25: squares, VALLEYS, RAIN and FLOW. */
public final class LandPromisesTest {
    private static final int NONE = RainOffice.NONE;
    private static final int WRONG = RainOffice.WRONG;
    private static final int CAN = 0, STORE = 3, POST = 5;
    private static final Check CHECK = new Check();

    private static void due(String what, long got, long want) { CHECK.due(what, got, want); }

    public static void main(String[] args) {
        parts();
        partsOfTellers();
        squares();
        valleys();
        rain();
        rainOfSquaresAcross();
        rainOfStore();
        valleysStay();
        mean();
        flow();
        flowOfTheLastDays();
        greatestFlow();
        ahead();
        CHECK.end("LandPromisesTest");
    }

    private static void parts() {
        RainOffice o = Scenes.cans(4, 0, 0, 0, 4, 0);
        due("19 none tells", o.part(0, 0, 0), NONE);
        Scenes.day(o, 1, 1, 1);
        due("19 on it", o.part(0, 0, 0), 1);
        due("19 like distances, the lesser place", o.part(2, 0, 0), 0);
        due("19 on one square, the lesser place", o.part(9, 9, 0), 0);
        due("19 nearer", o.part(1, 9, 0), 1);
        due("19 x 10", o.part(10, 0, 0), NONE);
        due("19 x -1", o.part(-1, 0, 0), NONE);
        due("19 y 10", o.part(0, 10, 0), NONE);
        due("19 y -1", o.part(0, -1, 0), NONE);
        due("19 day 1", o.part(0, 0, 1), NONE);
        due("19 day -1", o.part(0, 0, -1), NONE);
        due("19 day 56", o.part(0, 0, 56), NONE);
    }

    private static void partsOfTellers() {
        RainOffice o = Scenes.cans(0, 0, 5, 5);
        o.put(2, STORE, 1, 0, 0);
        o.put(3, POST, 0, 0, 0);
        o.read(1, 4);
        due("19 a mended one tells not", o.part(0, 0, 0), 1);
        o.read(0, 3000);
        due("19 a doubted one tells not", o.part(0, 0, 0), 1);
        o.close();
        o.read(1, 4);
        o.read(2, 40);
        due("19 a store tells its days", o.part(0, 0, 0), 2);
        due("19 today, too", o.part(0, 0, 1), 2);
        o.set(0, 5000);
        due("19 a trusted one tells", o.part(0, 0, 0), 0);
        o.lift(2);
        due("19 what is lifted tells not", o.part(0, 0, 1), 1);
    }

    private static void squares() {
        RainOffice o = Scenes.cans(0, 0, 9, 0);
        o.put(2, POST, 5, 5, 0);
        due("20 none tells", o.squares(0, 0), 0);
        o.read(0, 1);
        due("20 all", o.squares(0, 0), 100);
        due("20 not one that tells not", o.squares(1, 0), 0);
        o.read(1, 1);
        due("20 half", o.squares(0, 0), 50);
        due("20 the other half", o.squares(1, 0), 50);
        o.put(3, CAN, 0, 3, 0);
        o.read(3, 1);
        due("20 nearer than 0, 3 and 9, 0", o.squares(0, 0), 10);
        // of each y from 2 on those with 3x < 12 + y: 5, 5, 6, 6, 6, 7, 7, 7 (where it is like, place 1 has it)
        due("20 nearer than 0, 0 and 9, 0", o.squares(3, 0), 49);
        o.lift(3);
        due("20 post", o.squares(2, 0), WRONG);
        due("20 nothing", o.squares(3, 0), NONE);
        due("20 no place", o.squares(16, 0), NONE);
        due("20 the last day", o.squares(0, 55), 0);
        for (int day : new int[] {-1, 56, 63, Integer.MAX_VALUE, Integer.MIN_VALUE}) {
            due("20 no day " + day, o.squares(0, day), NONE);
            due("20 no day, tells not " + day, o.squares(1, day), NONE);
            due("20 post, no day " + day, o.squares(2, day), WRONG);
            due("20 nothing, no day " + day, o.squares(3, day), NONE);
        }
    }

    private static void valleys() {
        RainOffice o = new RainOffice();
        due("21 comes", o.valley(7, 9, 9, true), 1);
        due("21 comes again", o.valley(7, 9, 9, true), 1);
        due("21 another", o.valley(7, 0, 9, true), 2);
        due("21 not the same", o.valley(7, 9, 0, true), 3);
        due("21 of another valley", o.valley(0, 9, 9, true), 1);
        due("21 goes", o.valley(7, 9, 9, false), 2);
        due("21 is gone", o.valley(7, 9, 9, false), 2);
        due("21 valley -1", o.valley(-1, 0, 0, true), NONE);
        due("21 valley 8", o.valley(8, 0, 0, true), NONE);
        due("21 x -1", o.valley(0, -1, 0, true), NONE);
        due("21 x 10", o.valley(0, 10, 0, true), NONE);
        due("21 y -1", o.valley(0, 0, -1, true), NONE);
        due("21 y 10", o.valley(0, 0, 10, true), NONE);
        for (int x = 0; x < 10; x++) for (int y = 0; y < 10; y++) o.valley(1, x, y, true);
        due("21 all squares", o.valley(1, 0, 0, true), 100);
    }

    private static void rain() {
        RainOffice o = Scenes.cans(0, 0, 9, 9);
        o.read(0, 7);
        due("22 no squares", o.rain(0, 0), NONE);
        o.valley(0, 0, 0, true);
        o.valley(0, 0, 1, true);
        o.valley(0, 9, 8, true);
        due("22 one gauge for all", o.rain(0, 0), 21);
        o.read(1, 100);
        due("22 square by square", o.rain(0, 0), 114);
        due("22 none tells", o.rain(0, 1), NONE);
        due("22 valley -1", o.rain(-1, 0), NONE);
        due("22 valley 8", o.rain(8, 0), NONE);
        due("22 day 56", o.rain(0, 56), NONE);
        due("22 day -1", o.rain(0, -1), NONE);
        o.valley(0, 0, 0, false);
        due("22 without one", o.rain(0, 0), 107);
        o.read(0, 0);
        o.read(1, 0);
        due("22 no rain is 0", o.rain(0, 0), 0);
    }

    private static void rainOfSquaresAcross() {
        RainOffice o = Scenes.cans(9, 0, 0, 9);
        o.read(0, 7);
        o.read(1, 100);
        due("19 nearer to 9, 0", o.part(8, 1, 0), 0);
        due("19 nearer to 0, 9", o.part(1, 8, 0), 1);
        o.valley(0, 8, 1, true);
        o.valley(1, 1, 8, true);
        due("22 of a square with a great x", o.rain(0, 0), 7);
        due("22 of a square with a great y", o.rain(1, 0), 100);
        o.valley(0, 2, 0, true);
        due("22 2, 0 is nearer to 9, 0", o.rain(0, 0), 14);
        o.valley(0, 0, 2, true);
        due("22 0, 2 is nearer to 0, 9", o.rain(0, 0), 114);
    }

    private static void rainOfStore() {
        RainOffice o = Scenes.cans(0, 0);
        o.put(1, STORE, 9, 9, 0);
        Scenes.day(o, 10);
        Scenes.day(o, 30, 80);
        o.valley(0, 0, 0, true);
        o.valley(0, 9, 9, true);
        o.valley(0, 8, 8, true);
        o.set(5, 1);
        due("22 what a store spreads to the first day: 10, and 20 twice", o.rain(0, 0), 50);
        due("22 what it spreads to the last day: 30, and 60 twice", o.rain(0, 1), 150);
        due("23 50 by 3", o.mean(0, 0), 16_666);
        due("24 of both days", o.flow(0, 1), 200);
        due("25 today: 150 of the day ahead", o.ahead(0, 149), 2);
        due("20 the 45 nearer to it", o.squares(1, 0), 45);
    }

    private static void valleysStay() {
        RainOffice o = Scenes.cans(0, 0);
        o.valley(0, 0, 0, true);
        o.valley(0, 5, 5, true);
        o.read(0, 4);
        o.lift(0);
        due("21 a gauge goes, the squares stay", o.valley(0, 9, 9, false), 2);
        due("22 but none tells", o.rain(0, 0), NONE);
        due("24 and nothing flows", o.flow(0, 0), 0);
        o.close();
        due("21 a day ends, the squares stay", o.valley(0, 9, 9, false), 2);
        o.put(0, CAN, 9, 0, 0);
        o.read(0, 3);
        due("22 of the squares that stayed", o.rain(0, 1), 6);
        due("21 another valley has none of them", o.valley(1, 9, 9, false), 0);
    }

    private static void mean() {
        RainOffice o = Scenes.cans(0, 0, 9, 9);
        o.read(0, 7);
        o.read(1, 6);
        due("23 no squares", o.mean(0, 0), NONE);
        o.valley(0, 0, 0, true);
        due("23 of one square", o.mean(0, 0), 7000);
        o.valley(0, 9, 9, true);
        due("23 13 by 2", o.mean(0, 0), 6500);
        o.valley(0, 0, 1, true);
        due("23 20 by 3", o.mean(0, 0), 6666);
        due("23 none tells", o.mean(0, 1), NONE);
        due("23 valley 8", o.mean(8, 0), NONE);
        due("23 valley -1", o.mean(-1, 0), NONE);
    }

    private static void flow() {
        RainOffice o = Scenes.cans(0, 0);
        o.valley(0, 0, 0, true);
        due("24 none tells", o.flow(0, 0), 0);
        due("24 no squares", o.flow(1, 0), 0);
        for (int d = 0; d < 9; d++) Scenes.day(o, d + 1);
        due("24 at first this day alone", o.flow(0, 8), 9);
        for (int k = 0; k < 8; k++) o.set(4 + k, k + 1);
        due("24 day 0", o.flow(0, 0), 1);
        due("24 day 1", o.flow(0, 1), 2 + 2 * 1);
        due("24 eight days", o.flow(0, 8), 9 + 2 * 8 + 3 * 7 + 4 * 6 + 5 * 5 + 6 * 4 + 7 * 3 + 8 * 2);
        due("24 a day not read counts nothing", o.flow(0, 9), 2 * 9 + 3 * 8 + 4 * 7 + 5 * 6 + 6 * 5 + 7 * 4 + 8 * 3);
        due("24 the last of it", o.flow(0, 15), 8 * 9);
        due("24 behind", o.flow(0, 16), 0);
        due("24 day -1", o.flow(0, -1), NONE);
        due("24 day 63", o.flow(0, 63), 0);
        due("24 day 64", o.flow(0, 64), NONE);
        due("24 valley -1", o.flow(-1, 0), NONE);
        due("24 valley 8", o.flow(8, 0), NONE);
    }

    private static void flowOfTheLastDays() {
        RainOffice o = Scenes.cans(0, 0);
        o.valley(0, 5, 5, true);
        o.set(11, 3);
        Scenes.closeUpTo(o, 55);
        o.read(0, 50);
        due("24 day 55", o.flow(0, 55), 50);
        due("24 day 62", o.flow(0, 62), 150);
        due("24 day 63", o.flow(0, 63), 0);
        o.close();
        due("25 from day 56", o.ahead(0, 149), 62);
        due("25 not above", o.ahead(0, 150), NONE);
    }

    private static void greatestFlow() {
        RainOffice o = Scenes.cans(0, 0);
        o.set(0, 5000);
        for (int x = 0; x < 10; x++) for (int y = 0; y < 10; y++) o.valley(0, x, y, true);
        for (int k = 0; k < 8; k++) o.set(4 + k, 1000);
        for (int d = 0; d < 8; d++) Scenes.day(o, 5000);
        due("22 greatest", o.rain(0, 7), 500_000);
        due("23 greatest", o.mean(0, 7), 5_000_000);
        due("24 greatest", o.flow(0, 7), 4_000_000_000L);
        due("25 above a great level", o.ahead(0, 3_499_999_999L), 8);
        due("25 not above it", o.ahead(0, 3_500_000_000L), NONE);
    }

    private static void ahead() {
        RainOffice o = Scenes.cans(0, 0);
        o.valley(0, 0, 0, true);
        o.set(5, 2);
        o.set(6, 5);
        Scenes.day(o, 100);
        o.read(0, 10);
        due("25 today: 210", o.ahead(0, 209), 1);
        due("25 tomorrow: 520", o.ahead(0, 210), 2);
        due("25 none", o.ahead(0, 520), NONE);
        due("25 a level below 0", o.ahead(0, -1), 1);
        due("25 level 0", o.ahead(0, 0), 1);
        due("25 a valley without squares", o.ahead(1, -1), 1);
        due("25 and without flow", o.ahead(1, 0), NONE);
        due("25 valley -1", o.ahead(-1, -1), NONE);
        due("25 valley 8", o.ahead(8, -1), NONE);
        due("25 least level", o.ahead(0, Long.MIN_VALUE), 1);
        due("25 greatest level", o.ahead(0, Long.MAX_VALUE), NONE);
        o.close();
        o.set(4, 0);
        due("25 from today on", o.ahead(0, 209), 2);
    }
}
