/** What several tests begin with. */
final class Scenes {
    private Scenes() { }

    /** A net of CANS, from place 0 on, on the squares that are told as x, y, x, y, and so on. */
    static RainOffice cans(int... squares) {
        RainOffice o = new RainOffice();
        for (int p = 0; p < squares.length / 2; p++) o.put(p, 0, squares[2 * p], squares[2 * p + 1], 0);
        return o;
    }

    /** A day's readings, by place; NONE is not read. Then the day ends. */
    static void day(RainOffice o, int... v) {
        for (int p = 0; p < v.length; p++) if (v[p] != RainOffice.NONE) o.read(p, v[p]);
        o.close();
    }

    /** Ends days up to one, and never more than there are: a fault of close() is not to hold up a test. */
    static void closeUpTo(RainOffice o, int day) {
        for (int ended = 0; ended < 56 && o.today() < day; ended++) o.close();
    }
}
