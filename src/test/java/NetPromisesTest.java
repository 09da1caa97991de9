/** Promises 1 to 12: the net, its readings, the log of what is put in BY HAND, and the rules. */
public final class NetPromisesTest {
    private static final int NONE = RainOffice.NONE;
    private static final int WRONG = RainOffice.WRONG;
    private static final int CAN = 0, TIPPER = 1, SNOW = 2, STORE = 3, TWIN = 4, POST = 5;
    private static final Check CHECK = new Check();

    private static void due(String what, long got, long want) { CHECK.due(what, got, want); }

    public static void main(String[] args) {
        constants();
        newObject();
        put();
        putRefusals();
        lift();
        look();
        read();
        full();
        melt();
        other();
        hand();
        handLimit();
        closeAndToday();
        set();
        ownMemory();
        CHECK.end("NetPromisesTest");
    }

    /** A net with one thing of each KIND, in the place of its number. */
    private static RainOffice oneOfEach() {
        RainOffice o = new RainOffice();
        for (int kind = CAN; kind <= POST; kind++) o.put(kind, kind, kind, 0, 4);
        return o;
    }

    private static void constants() {
        due("NONE", NONE, -1);
        due("WRONG", WRONG, -2);
    }

    private static void newObject() {
        RainOffice o = new RainOffice();
        due("1 today", o.today(), 0);
        for (int p = -1; p <= 16; p++) {
            due("1 look " + p, o.look(p, 0), NONE);
            due("1 raw " + p, o.raw(p, 0), NONE);
        }
        due("1 part", o.part(0, 0, 0), NONE);
        due("1 rain", o.rain(0, 0), NONE);
        due("1 flow", o.flow(0, 0), 0);
        due("1 valley", o.valley(0, 9, 9, false), 0);
    }

    private static void put() {
        RainOffice o = new RainOffice();
        due("2 least place", o.put(0, CAN, 0, 0, -5), 0);
        due("2 greatest place", o.put(15, POST, 9, 9, 100), 15);
        due("2 several on a square", o.put(1, SNOW, 0, 0, 0), 1);
        due("2 least size", o.put(2, TIPPER, 0, 9, 1), 2);
        due("2 greatest size", o.put(3, TWIN, 9, 0, 20), 3);
        due("2 store", o.put(4, STORE, 5, 5, 99), 4);
    }

    private static void putRefusals() {
        RainOffice o = new RainOffice();
        due("2 place -1", o.put(-1, CAN, 0, 0, 1), NONE);
        due("2 place 16", o.put(16, CAN, 0, 0, 1), NONE);
        due("2 kind -1", o.put(0, -1, 0, 0, 1), NONE);
        due("2 kind 6", o.put(0, 6, 0, 0, 1), NONE);
        due("2 x -1", o.put(0, CAN, -1, 0, 1), NONE);
        due("2 x 10", o.put(0, CAN, 10, 0, 1), NONE);
        due("2 y -1", o.put(0, CAN, 0, -1, 1), NONE);
        due("2 y 10", o.put(0, CAN, 0, 10, 1), NONE);
        due("2 tipper 0", o.put(0, TIPPER, 0, 0, 0), NONE);
        due("2 tipper 21", o.put(0, TIPPER, 0, 0, 21), NONE);
        due("2 twin 0", o.put(0, TWIN, 0, 0, 0), NONE);
        due("2 twin 21", o.put(0, TWIN, 0, 0, 21), NONE);
        due("2 nothing came", o.look(0, 0), NONE);
        o.put(0, CAN, 1, 1, 0);
        due("2 something lies there", o.put(0, SNOW, 2, 2, 0), NONE);
        due("2 it stays", o.look(0, 0), CAN);
        due("2 where it was", o.look(0, 1), 1);
    }

    private static void lift() {
        RainOffice o = oneOfEach();
        o.read(SNOW, 50);
        o.melt(SNOW, 20);
        o.hand(SNOW, 0, 7);
        due("3 snow", o.lift(SNOW), SNOW);
        due("3 twice", o.lift(SNOW), NONE);
        due("3 post", o.lift(POST), POST);
        due("3 can", o.lift(CAN), CAN);
        due("3 tipper", o.lift(TIPPER), TIPPER);
        due("3 twin", o.lift(TWIN), TWIN);
        due("3 store", o.lift(STORE), STORE);
        due("3 place -1", o.lift(-1), NONE);
        due("3 place 16", o.lift(16), NONE);
        o.close();
        o.put(SNOW, SNOW, 3, 3, 0);
        due("3 nothing lies", o.look(SNOW, 5), 0);
        due("3 readings are gone", o.raw(SNOW, 0), NONE);
        due("3 what was known is gone", o.known(SNOW, 0, 0), NONE);
        due("3 but counted", o.hand(SNOW, 1, 3), 2);
    }

    private static void look() {
        RainOffice o = new RainOffice();
        Scenes.closeUpTo(o, 3);
        o.put(0, TWIN, 4, 7, 11);
        o.put(1, POST, 8, 2, 5);
        o.put(2, SNOW, 0, 0, 5);
        o.read(2, 30);
        o.read(2, 12);
        o.read(0, 9);
        int[] twin = {TWIN, 4, 7, 11, 3, 0};
        int[] post = {POST, 8, 2, 0, 0, 0};
        int[] snow = {SNOW, 0, 0, 0, 3, 42};
        for (int what = 0; what < 6; what++) {
            due("4 twin " + what, o.look(0, what), twin[what]);
            due("4 post " + what, o.look(1, what), post[what]);
            due("4 snow " + what, o.look(2, what), snow[what]);
        }
        due("4 what -1", o.look(0, -1), NONE);
        due("4 what 6", o.look(0, 6), NONE);
        due("4 nothing", o.look(3, 0), NONE);
        due("4 no place", o.look(16, 0), NONE);
    }

    private static void read() {
        RainOffice o = oneOfEach();
        for (int p : new int[] {CAN, SNOW, STORE}) {
            due("5 least " + p, o.read(p, 0), 1);
            due("5 greatest " + p, o.read(p, 5000), 1);
            due("5 above " + p, o.read(p, 5001), NONE);
            due("5 below " + p, o.read(p, -1), NONE);
        }
        for (int p : new int[] {TIPPER, TWIN}) {
            due("5 least " + p, o.read(p, 0), 1);
            due("5 greatest " + p, o.read(p, 250), 1);
            due("5 above " + p, o.read(p, 251), NONE);
            due("5 below " + p, o.read(p, -1), NONE);
        }
        due("5 post", o.read(POST, -1), WRONG);
        due("5 nothing", o.read(6, 1), NONE);
        due("5 no place", o.read(-1, 1), NONE);
        due("5 refused readings change nothing", o.raw(CAN, 0), 5000);
        due("5 snow lies", o.look(SNOW, 5), 5000);
        due("5 the latest", o.read(CAN, 12), 1);
        due("5 counts", o.raw(CAN, 0), 12);
        Scenes.closeUpTo(o, 56);
        due("5 after the last day", o.read(CAN, 1), NONE);
        due("5 snow after the last day", o.read(SNOW, 1), NONE);
        due("5 no more snow", o.look(SNOW, 5), 5000);
        due("5 post after the last day", o.read(POST, 1), WRONG);
    }

    private static void full() {
        RainOffice o = oneOfEach();
        due("6 least", o.full(TIPPER, 0), 1);
        due("6 greatest", o.full(TIPPER, 7), 1);
        due("6 above", o.full(TIPPER, 8), NONE);
        due("6 below", o.full(TIPPER, -1), NONE);
        for (int p : new int[] {CAN, SNOW, STORE, TWIN, POST}) due("6 kind " + p, o.full(p, 9), WRONG);
        due("6 nothing", o.full(6, 1), NONE);
        due("6 full alone is no reading", o.raw(TIPPER, 0), NONE);
        o.close();
        o.read(TIPPER, 10);
        o.full(TIPPER, 1);
        due("6 7 eighths ahead, 1 now: 40 - 3", o.raw(TIPPER, 1), 37);
        o.full(TIPPER, 5);
        due("6 the latest: 40 - 1", o.raw(TIPPER, 1), 39);
        Scenes.closeUpTo(o, 56);
        due("6 after the last day", o.full(TIPPER, 1), NONE);
        due("6 another after the last day", o.full(TWIN, 1), WRONG);
    }

    private static void melt() {
        RainOffice o = oneOfEach();
        due("7 nothing lies", o.melt(SNOW, 1), NONE);
        for (int i = 0; i < 3; i++) o.read(SNOW, 4000);
        due("7 v 0", o.melt(SNOW, 0), NONE);
        due("7 v 5001", o.melt(SNOW, 5001), NONE);
        due("7 still lies", o.melt(SNOW, 4999), 7001);
        due("7 more than 5000 on a day", o.melt(SNOW, 2), NONE);
        due("7 5000 on a day", o.melt(SNOW, 1), 7000);
        due("7 raw", o.raw(SNOW, 0), 5000);
        due("7 looks", o.look(SNOW, 5), 7000);
        o.close();
        due("7 the next day", o.melt(SNOW, 5000), 2000);
        o.close();
        due("7 not so much", o.melt(SNOW, 2001), NONE);
        due("7 all", o.melt(SNOW, 2000), 0);
        due("7 a day without v is read", o.raw(SNOW, 2), 2000);
        for (int p : new int[] {CAN, TIPPER, STORE, TWIN, POST}) due("7 kind " + p, o.melt(p, 0), WRONG);
        due("7 nothing in the place", o.melt(6, 1), NONE);
        due("7 no place", o.melt(16, 1), NONE);
        o.read(SNOW, 10);
        Scenes.closeUpTo(o, 56);
        due("7 after the last day", o.melt(SNOW, 1), NONE);
        due("7 another after the last day", o.melt(CAN, 1), WRONG);
    }

    private static void other() {
        RainOffice o = oneOfEach();
        due("8 least", o.other(TWIN, 0), 1);
        due("8 greatest", o.other(TWIN, 250), 1);
        due("8 above", o.other(TWIN, 251), NONE);
        due("8 below", o.other(TWIN, -1), NONE);
        for (int p : new int[] {CAN, TIPPER, SNOW, STORE, POST}) due("8 kind " + p, o.other(p, 251), WRONG);
        due("8 nothing", o.other(6, 1), NONE);
        o.read(TWIN, 249);
        due("8 both times the size by 2", o.raw(TWIN, 0), 998);
        Scenes.closeUpTo(o, 56);
        due("8 after the last day", o.other(TWIN, 1), NONE);
    }

    private static void hand() {
        RainOffice o = oneOfEach();
        Scenes.closeUpTo(o, 2);
        o.put(6, CAN, 9, 9, 0);
        due("9 first", o.hand(CAN, 0, 0), 1);
        due("9 of all gauges", o.hand(TWIN, 2, 5000), 2);
        due("9 not read", o.hand(CAN, 1, NONE), 3);
        due("9 v -2", o.hand(CAN, 1, -2), NONE);
        due("9 v 5001", o.hand(CAN, 1, 5001), NONE);
        due("9 day -1", o.hand(CAN, -1, 1), NONE);
        due("9 a day to come", o.hand(CAN, 3, 1), NONE);
        due("9 ahead of its first day", o.hand(6, 1, 1), NONE);
        due("9 its first day", o.hand(6, 2, 1), 4);
        due("9 store", o.hand(STORE, -1, -2), WRONG);
        due("9 post", o.hand(POST, 0, 1), WRONG);
        due("9 nothing", o.hand(7, 0, 1), NONE);
        due("9 snow", o.hand(SNOW, 0, 1), 5);
        due("9 tipper", o.hand(TIPPER, 0, 1), 6);
        due("9 it goes ahead", o.raw(TWIN, 2), 5000);
        o.read(CAN, 80);
        o.hand(CAN, 2, 7);
        o.read(CAN, 90);
        due("9 also of a later reading", o.raw(CAN, 2), 7);
        o.hand(CAN, 2, 8);
        due("9 the latest", o.raw(CAN, 2), 8);
        o.hand(CAN, 2, NONE);
        due("9 as if not read", o.raw(CAN, 2), NONE);
        Scenes.closeUpTo(o, 56);
        due("9 on day 56, of day 55", o.hand(CAN, 55, 3), 10);
        due("9 for day 56", o.hand(CAN, 56, 3), NONE);
        due("9 it is known", o.raw(CAN, 55), 3);
    }

    private static void handLimit() {
        RainOffice o = oneOfEach();
        for (int i = 1; i <= 100; i++) due("9 entry " + i, o.hand(i % 2 == 0 ? CAN : SNOW, 0, i), i);
        due("9 100 were put in", o.hand(TIPPER, 0, 1), NONE);
        due("9 store after 100", o.hand(STORE, 0, 1), WRONG);
        due("9 the last of one", o.raw(CAN, 0), 100);
        due("9 the last of another", o.raw(SNOW, 0), 99);
        o.lift(CAN);
        due("9 so far, also what is gone", o.hand(SNOW, 0, 1), NONE);
    }

    private static void closeAndToday() {
        RainOffice o = new RainOffice();
        for (int day = 1; day <= 56; day++) {
            due("10 close " + day, o.close(), day);
            due("11 today " + day, o.today(), day);
        }
        due("10 after the last day", o.close(), NONE);
        due("11 it stays", o.today(), 56);
        due("2 on day 56", o.put(0, CAN, 0, 0, 0), 0);
        due("4 its first day", o.look(0, 4), 56);
        due("9 of no day", o.hand(0, 55, 1), NONE);
    }

    private static void set() {
        RainOffice o = new RainOffice();
        int[][] bounds = {{0, 5000}, {0, 200}, {1, 5000}, {0, 100}};
        for (int what = 0; what < 12; what++) {
            int least = what < 4 ? bounds[what][0] : 0;
            int most = what < 4 ? bounds[what][1] : 1000;
            CHECK.due("12 least of " + what, o.set(what, least), true);
            CHECK.due("12 greatest of " + what, o.set(what, most), true);
            CHECK.due("12 below " + what, o.set(what, least - 1), false);
            CHECK.due("12 above " + what, o.set(what, most + 1), false);
        }
        CHECK.due("12 what -1", o.set(-1, 1), false);
        CHECK.due("12 what 12", o.set(12, 1), false);
        o.put(0, CAN, 0, 0, 0);
        o.read(0, 101);
        o.valley(0, 0, 0, true);
        o.set(4, 2);
        o.set(4, 1001);
        due("12 a unit counts", o.flow(0, 0), 202);
        o.set(0, 101);
        due("12 up to the greatest", o.why(0, 0), 0);
        o.set(0, 100);
        due("12 above the greatest, of readings made before, too", o.why(0, 0), 1);
        o.set(0, -1);
        due("12 a refused one changes nothing", o.why(0, 0), 1);
    }

    /** "All memory is the class's own": of two offices neither sees what the other is told. */
    private static void ownMemory() {
        RainOffice busy = oneOfEach();
        RainOffice idle = new RainOffice();
        busy.set(0, 5);
        busy.set(4, 0);
        busy.read(CAN, 9);
        busy.hand(CAN, 0, 8);
        busy.valley(0, 0, 0, true);
        busy.close();
        RainOffice late = new RainOffice();
        for (RainOffice o : new RainOffice[] {idle, late}) {
            due("1 day 0", o.today(), 0);
            due("1 nothing lies there", o.look(CAN, 0), NONE);
            due("1 no squares", o.valley(0, 9, 9, false), 0);
            due("1 put there", o.put(CAN, CAN, 0, 0, 0), CAN);
            due("1 not read", o.raw(CAN, 0), NONE);
            due("1 the first that is put in", o.hand(CAN, 0, 7), 1);
            due("1 the greatest at first", o.why(CAN, 0), 0);
            o.valley(0, 5, 5, true);
            due("1 the unit at first", o.flow(0, 0), 7);
        }
        due("1 the other one's day", busy.today(), 1);
        due("1 the other one's number", busy.raw(CAN, 0), 8);
        due("1 the other one's rule", busy.why(CAN, 0), 1);
        due("1 the other one's squares", busy.valley(0, 9, 9, false), 1);
        due("1 the other one's count", busy.hand(CAN, 0, 7), 2);
    }
}
