import java.util.ArrayList;
import java.util.List;
import java.util.Random;

/** Long runs of calls with drawn arguments, answered as the plain model answers them. */
public final class RandomRunsTest {
    private static final int CALLS = 512;
    /** The numbers on both sides of the document's bounds. */
    private static final int[] EXTREMES = {Integer.MIN_VALUE, -2, -1, 0, 1, 3, 4, 5, 6, 7, 8, 9, 10, 11, 12, 15, 16, 20,
        21, 54, 55, 56, 57, 63, 64, 100, 101, 200, 201, 250, 251, 1000, 1001, 2000, 2001, 5000, 5001, Integer.MAX_VALUE};

    private final Random draw;
    private final RainOffice office = new RainOffice();
    private final Model model = new Model();
    private final List<String> calls = new ArrayList<>();
    private final int places;
    private final int land;
    private final int closing;
    private final int asking;
    private final boolean diligent;
    /** One of so many arguments is an extreme one. */
    private final int strange;
    private int reader = 0;
    private int level = 12;
    private long got;
    private long want;

    private RandomRunsTest(long seed) {
        draw = new Random(seed);
        places = draw.nextBoolean() ? 2 + draw.nextInt(4) : 2 + draw.nextInt(15);
        land = 2 + draw.nextInt(9);
        closing = 1 + draw.nextInt(10);
        asking = draw.nextInt(95);
        diligent = draw.nextInt(4) > 0;
        strange = draw.nextInt(6) == 0 ? 4 : 60;
    }

    public static void main(String[] args) {
        Check check = new Check();
        for (long seed = 1; seed <= 400; seed++) {
            RandomRunsTest run = new RandomRunsTest(seed);
            for (int i = 0; i < CALLS && !check.hasFailed(); i++) {
                run.call();
                check.due("seed " + seed + " " + run.calls.get(i), run.got, run.want);
            }
            if (check.hasFailed()) {
                run.calls.forEach(System.out::println);
                break;
            }
        }
        check.end("RandomRunsTest");
    }

    private int below(int n) { return draw.nextInt(n); }

    /** Mostly what is in use, now and then any number. */
    private int or(int usual) { return below(strange) == 0 ? EXTREMES[below(EXTREMES.length)] : usual; }

    private int p() { return or(below(places)); }

    private int square() { return or(below(land)); }

    private int day() { return or(below(office.today() + 2)); }

    private int amount() {
        switch (below(4)) {
            case 0: return 0;
            case 1: return below(20);
            case 2: return below(250);
            default: return or(below(3000));
        }
    }

    private void answered(String call, long of, long due) {
        calls.add(call);
        got = of;
        want = due;
    }

    /** Some runs draw every call; the others fill a net first, then read it day by day and ask. */
    private void call() {
        if (!diligent) {
            drawnCall();
        } else if (calls.size() < places) {
            putCall(calls.size(), below(5));
        } else if (calls.size() < places + 6) {
            valleyCall();
        } else {
            dailyCall();
        }
    }

    private void drawnCall() {
        int kind = below(100);
        if (kind < closing) {
            closeCall();
        } else if (kind < 60) {
            write(below(20));
        } else {
            ask(below(17));
        }
    }

    private void dailyCall() {
        if (reader < 2 * places) {
            readDaily(reader++);
        } else if (below(100) < asking) {
            ask(below(17));
        } else if (below(6) == 0) {
            write(below(20));
        } else {
            reader = 0;
            level = new int[] {0, 12, 40, 200}[below(4)];
            closeCall();
        }
    }

    private void readDaily(int turn) {
        int p = turn / 2;
        int v = Math.max(0, level + below(7) - 3 - (below(12) == 0 ? level : 0));
        int kind = model.look(p, 0);
        if (turn % 2 == 0 && below(10) > 0) {
            answered("read(" + p + ", " + v + ")", office.read(p, v), model.read(p, v));
        } else if (kind == 1) {
            answered("full(" + p + ", " + v % 8 + ")", office.full(p, v % 8), model.full(p, v % 8));
        } else if (kind == 2) {
            answered("melt(" + p + ", " + v + ")", office.melt(p, v), model.melt(p, v));
        } else if (kind == 4) {
            answered("other(" + p + ", " + v + ")", office.other(p, v), model.other(p, v));
        } else {
            ask(below(17));
        }
    }

    private void closeCall() { answered("close()", office.close(), model.close()); }

    private void putCall(int p, int kind) {
        int x = square();
        int y = square();
        int size = or(1 + below(20));
        answered("put(" + p + ", " + kind + ", " + x + ", " + y + ", " + size + ")",
            office.put(p, kind, x, y, size), model.put(p, kind, x, y, size));
    }

    private void valleyCall() {
        int x = square();
        int y = square();
        int valley = or(below(2));
        boolean in = below(5) > 0;
        answered("valley(" + valley + ", " + x + ", " + y + ", " + in + ")",
            office.valley(valley, x, y, in), model.valley(valley, x, y, in));
    }

    private void write(int which) {
        int p = p();
        int v = amount();
        int day = day();
        switch (which) {
            case 0: case 1: case 2: putCall(p, or(below(6))); break;
            case 3: valleyCall(); break;
            case 4:
                if (below(4) == 0) answered("lift(" + p + ")", office.lift(p), model.lift(p));
                else answered("look(" + p + ", " + v % 8 + ")", office.look(p, v % 8), model.look(p, v % 8));
                break;
            case 5: answered("full(" + p + ", " + v % 10 + ")", office.full(p, v % 10), model.full(p, v % 10)); break;
            case 6: answered("melt(" + p + ", " + v + ")", office.melt(p, v), model.melt(p, v)); break;
            case 7: case 8: answered("other(" + p + ", " + v + ")", office.other(p, v), model.other(p, v)); break;
            case 9: case 10: {
                int put = or(below(6) == 0 ? -1 : v);
                answered("hand(" + p + ", " + day + ", " + put + ")", office.hand(p, day, put), model.hand(p, day, put));
                break;
            }
            case 11: {
                int what = or(below(12));
                answered("set(" + what + ", " + v + ")", office.set(what, v) ? 1 : 0, model.set(what, v) ? 1 : 0);
                break;
            }
            default: answered("read(" + p + ", " + v + ")", office.read(p, v), model.read(p, v));
        }
    }

    private void ask(int which) {
        int p = p();
        int day = day();
        int v = or(below(2));
        switch (which) {
            case 0: answered("raw(" + p + ", " + day + ")", office.raw(p, day), model.raw(p, day)); break;
            case 1: {
                int then = day();
                answered("known(" + p + ", " + day + ", " + then + ")", office.known(p, day, then), model.known(p, day, then));
                break;
            }
            case 2: answered("why(" + p + ", " + day + ")", office.why(p, day), model.why(p, day)); break;
            case 3: case 4: answered("state(" + p + ", " + day + ")", office.state(p, day), model.state(p, day)); break;
            case 5: case 6: answered("number(" + p + ", " + day + ")", office.number(p, day), model.number(p, day)); break;
            case 7: {
                int i = or(below(5));
                answered("from(" + p + ", " + day + ", " + i + ")", office.from(p, day, i), model.from(p, day, i));
                break;
            }
            case 8: {
                int x = or(below(10));
                int y = or(below(10));
                answered("part(" + x + ", " + y + ", " + day + ")", office.part(x, y, day), model.part(x, y, day));
                break;
            }
            case 9: answered("squares(" + p + ", " + day + ")", office.squares(p, day), model.squares(p, day)); break;
            case 10: answered("rain(" + v + ", " + day + ")", office.rain(v, day), model.rain(v, day)); break;
            case 11: answered("mean(" + v + ", " + day + ")", office.mean(v, day), model.mean(v, day)); break;
            case 12: answered("flow(" + v + ", " + day + ")", office.flow(v, day), model.flow(v, day)); break;
            case 13: {
                long above = below(2000) * 10L - 10;
                answered("ahead(" + v + ", " + above + ")", office.ahead(v, above), model.ahead(v, above));
                break;
            }
            case 14: {
                int w = or(below(8));
                int what = or(below(2));
                answered("week(" + p + ", " + w + ", " + what + ")", office.week(p, w, what), model.week(p, w, what));
                break;
            }
            case 15: answered("cleft(" + p + ")", office.cleft(p), model.cleft(p)); break;
            default: {
                int w = or(below(8));
                answered("misses(" + p + ", " + w + ")", office.misses(p, w), model.misses(p, w));
            }
        }
    }
}
