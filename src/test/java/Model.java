import java.util.ArrayList;
import java.util.Comparator;
import java.util.List;
import java.util.TreeMap;
import java.util.TreeSet;

/** The document's words once more, with nothing kept ready: every answer is worked out from the readings. */
final class Model {
    static final int NONE = -1;
    static final int WRONG = -2;

    static final class Thing {
        int place, kind, x, y, size, first, lies;
        final TreeMap<Integer, Integer> v = new TreeMap<>();
        final TreeMap<Integer, Integer> full = new TreeMap<>();
        final TreeMap<Integer, Integer> melted = new TreeMap<>();
        final TreeMap<Integer, Integer> other = new TreeMap<>();
        final List<int[]> byHand = new ArrayList<>();

        boolean store() { return kind == 3; }
        boolean post() { return kind == 5; }
    }

    final TreeMap<Integer, Thing> net = new TreeMap<>();
    final List<TreeSet<Integer>> valleys = new ArrayList<>();
    final int[] rule = {2000, 4, 10, 20, 1, 0, 0, 0, 0, 0, 0, 0};
    int today = 0;
    int putIn = 0;

    Model() {
        for (int v = 0; v < 8; v++) valleys.add(new TreeSet<>());
    }

    static int distance(int x, int y, Thing t) {
        return (t.x - x) * (t.x - x) + (t.y - y) * (t.y - y);
    }

    List<Thing> gaugesFrom(int x, int y) {
        List<Thing> list = new ArrayList<>();
        for (Thing t : net.values()) if (!t.post()) list.add(t);
        list.sort(Comparator.<Thing>comparingInt(t -> distance(x, y, t)).thenComparingInt(t -> t.place));
        return list;
    }

    List<Thing> othersFrom(Thing t) {
        List<Thing> list = gaugesFrom(t.x, t.y);
        list.remove(t);
        return list;
    }

    // ---- what the terms say ----

    Integer readNumber(Thing t, int day) {
        Integer v = t.v.get(day);
        switch (t.kind) {
            case 0: return v;
            case 1: {
                if (v == null) return null;
                int n = v * t.size;
                if (t.full.containsKey(day) && t.full.containsKey(day - 1)) {
                    n += t.size * (t.full.get(day) - t.full.get(day - 1)) / 8;
                }
                return n < 0 ? 0 : n;
            }
            case 2:
                if (v == null && !t.melted.containsKey(day)) return null;
                return t.melted.getOrDefault(day, 0);
            case 4:
                if (v == null || !t.other.containsKey(day)) return null;
                return Math.floorDiv((v + t.other.get(day)) * t.size, 2);
            default: return null;
        }
    }

    Integer rawKnown(Thing t, int day, int then) {
        Integer n = day <= then ? readNumber(t, day) : null;
        for (int[] entry : t.byHand) {
            if (entry[0] == day && entry[2] <= then) n = entry[1] == NONE ? null : (Integer) entry[1];
        }
        return n;
    }

    Integer rawNow(Thing t, int day) { return rawKnown(t, day, 1000); }

    int doubt(Thing t, int day) {
        Integer n = rawNow(t, day);
        if (n == null) return 0;
        if (n > rule[0]) return 1;
        if (n == 0) {
            int many = 0;
            boolean wet = true;
            for (Thing o : othersFrom(t)) {
                Integer m = rawNow(o, day);
                if (distance(t.x, t.y, o) <= rule[1] && m != null) {
                    many++;
                    wet &= m >= rule[2];
                }
            }
            if (many >= 2 && wet) return 2;
        }
        boolean hand = t.byHand.stream().anyMatch(e -> e[0] == day);
        if (t.kind == 4 && !hand) {
            int a = Math.max(t.v.get(day), t.other.get(day));
            int b = Math.min(t.v.get(day), t.other.get(day));
            if (100 * (a - b) > rule[3] * a) return 3;
        }
        return 0;
    }

    Integer trusted(Thing t, int day) { return doubt(t, day) != 0 ? null : rawNow(t, day); }

    List<Thing> menders(Thing t, int day) {
        List<Thing> list = new ArrayList<>();
        if (t.store() || day < t.first) return list;
        for (Thing o : othersFrom(t)) if (list.size() < 4 && trusted(o, day) != null) list.add(o);
        return list;
    }

    Integer mended(Thing t, int day) {
        long sum = 0;
        long weights = 0;
        for (Thing o : menders(t, day)) {
            long a = 0;
            long b = 0;
            for (int d = 0; d < today; d++) {
                Integer n = trusted(t, d);
                Integer m = trusted(o, d);
                if (n != null && m != null) { a += n; b += m; }
            }
            if (b == 0) { a = 1; b = 1; }
            int far = distance(t.x, t.y, o);
            long near = far == 0 ? 288 : Math.max(1, 144 / far);
            sum += trusted(o, day) * a * 1000 / b * near;
            weights += near;
        }
        return weights == 0 ? null : (Integer) (int) (sum / (1000 * weights));
    }

    Integer spread(Thing store, int day) {
        Integer until = store.v.ceilingKey(day);
        if (!store.store() || until == null || day < store.first) return null;
        Integer last = store.v.lowerKey(until);
        int since = last == null ? store.first : last + 1;
        int whole = store.v.get(until);
        for (Thing o : othersFrom(store)) {
            long total = 0;
            boolean all = true;
            for (int d = since; d <= until; d++) {
                Integer n = trusted(o, d);
                all &= n != null;
                total += n == null ? 0 : n;
            }
            if (!all) continue;
            if (total == 0) break;
            return share(o, since, until, whole, total).get(day);
        }
        return day == until ? whole : 0;
    }

    TreeMap<Integer, Integer> share(Thing o, int since, int until, long whole, long total) {
        TreeMap<Integer, Integer> parts = new TreeMap<>();
        List<Integer> days = new ArrayList<>();
        long left = whole;
        for (int d = since; d <= until; d++) {
            parts.put(d, (int) (whole * trusted(o, d) / total));
            left -= parts.get(d);
            days.add(d);
        }
        days.sort(Comparator.<Integer>comparingLong(d -> -(whole * trusted(o, d) % total)).thenComparingInt(d -> d));
        for (int i = 0; i < left; i++) parts.merge(days.get(i), 1, Integer::sum);
        return parts;
    }

    Integer told(Thing t, int day) { return t.store() ? spread(t, day) : trusted(t, day); }

    Thing owner(int x, int y, int day) {
        for (Thing t : gaugesFrom(x, y)) if (told(t, day) != null) return t;
        return null;
    }

    long[] weekSums(Thing t, int w) {
        List<Thing> four = new ArrayList<>();
        for (Thing o : othersFrom(t)) if (!o.store() && four.size() < 4) four.add(o);
        long[] sums = new long[2];
        for (int d = 7 * w; d < 7 * w + 7; d++) {
            boolean all = trusted(t, d) != null;
            for (Thing o : four) all &= trusted(o, d) != null;
            if (!all) continue;
            sums[0] += trusted(t, d);
            for (Thing o : four) sums[1] += trusted(o, d);
        }
        return sums;
    }

    long missesOfPart(Thing t, int from, int to) {
        long sa = 0;
        long sb = 0;
        for (int w = from; w <= to; w++) {
            sa += weekSums(t, w)[0];
            sb += weekSums(t, w)[1];
        }
        long sum = 0;
        for (int w = from; w <= to; w++) {
            long[] ab = weekSums(t, w);
            sum += sb == 0 ? Math.abs(ab[0]) : Math.abs(ab[0] * sb - ab[1] * sa);
        }
        return sb == 0 ? sum * 1000 : sum * 1000 / sb;
    }

    // ---- the face ----

    /** 0, if the place is there and holds one of these KINDS (a digit each). */
    int fault(int p, String kinds) {
        if (!net.containsKey(p)) return NONE;
        return kinds.indexOf('0' + net.get(p).kind) < 0 ? WRONG : 0;
    }

    int faultOfDay(int p, int day) {
        int fault = fault(p, "01234");
        return fault == 0 && (day < 0 || day > 55) ? NONE : fault;
    }

    static int plain(Integer n) { return n == null ? NONE : n; }

    int put(int p, int kind, int x, int y, int size) {
        boolean sized = kind == 1 || kind == 4;
        if (p < 0 || p > 15 || kind < 0 || kind > 5 || x < 0 || x > 9 || y < 0 || y > 9) return NONE;
        if (net.containsKey(p) || sized && (size < 1 || size > 20)) return NONE;
        Thing t = new Thing();
        t.place = p; t.kind = kind; t.x = x; t.y = y;
        t.size = sized ? size : 0;
        t.first = kind == 5 ? 0 : today;
        net.put(p, t);
        return p;
    }

    int lift(int p) {
        Thing t = net.remove(p);
        return t == null ? NONE : t.kind;
    }

    int look(int p, int what) {
        Thing t = net.get(p);
        if (t == null || what < 0 || what > 5) return NONE;
        return new int[] {t.kind, t.x, t.y, t.size, t.first, t.lies}[what];
    }

    int read(int p, int v) {
        int fault = fault(p, "01234");
        if (fault != 0) return fault;
        Thing t = net.get(p);
        if (v < 0 || v > (t.size > 0 ? 250 : 5000) || today == 56) return NONE;
        t.v.put(today, v);
        if (t.kind == 2) t.lies += v;
        return 1;
    }

    int full(int p, int v) {
        int fault = fault(p, "1");
        if (fault != 0) return fault;
        if (v < 0 || v > 7 || today == 56) return NONE;
        net.get(p).full.put(today, v);
        return 1;
    }

    int melt(int p, int v) {
        int fault = fault(p, "2");
        if (fault != 0) return fault;
        Thing t = net.get(p);
        if (v < 1 || v > 5000 || today == 56 || v > t.lies) return NONE;
        if (t.melted.getOrDefault(today, 0) + v > 5000) return NONE;
        t.melted.merge(today, v, Integer::sum);
        t.lies -= v;
        return t.lies;
    }

    int other(int p, int v) {
        int fault = fault(p, "4");
        if (fault != 0) return fault;
        if (v < 0 || v > 250 || today == 56) return NONE;
        net.get(p).other.put(today, v);
        return 1;
    }

    int hand(int p, int day, int v) {
        int fault = fault(p, "0124");
        if (fault != 0) return fault;
        if (v < -1 || v > 5000 || day < net.get(p).first || day > today || day > 55 || putIn == 100) return NONE;
        net.get(p).byHand.add(new int[] {day, v, today});
        return ++putIn;
    }

    int close() { return today == 56 ? NONE : ++today; }

    int today() { return today; }

    boolean set(int what, int v) {
        boolean can;
        switch (what) {
            case 0: can = v >= 0 && v <= 5000; break;
            case 1: can = v >= 0 && v <= 200; break;
            case 2: can = v >= 1 && v <= 5000; break;
            case 3: can = v >= 0 && v <= 100; break;
            default: can = what >= 4 && what <= 11 && v >= 0 && v <= 1000;
        }
        if (can) rule[what] = v;
        return can;
    }

    int raw(int p, int day) {
        int fault = faultOfDay(p, day);
        return fault != 0 ? fault : plain(rawNow(net.get(p), day));
    }

    int known(int p, int day, int then) {
        int fault = faultOfDay(p, day);
        return fault != 0 ? fault : plain(rawKnown(net.get(p), day, then));
    }

    int why(int p, int day) {
        int fault = faultOfDay(p, day);
        return fault != 0 ? fault : doubt(net.get(p), day);
    }

    int state(int p, int day) {
        int fault = faultOfDay(p, day);
        if (fault != 0) return fault;
        Thing t = net.get(p);
        if (t.store()) return spread(t, day) == null ? 0 : 4;
        if (trusted(t, day) != null) return 1;
        if (mended(t, day) != null) return 3;
        return rawNow(t, day) == null ? 0 : 2;
    }

    int number(int p, int day) {
        int state = state(p, day);
        if (state < 0) return state;
        Thing t = net.get(p);
        return plain(state == 4 ? spread(t, day) : state == 3 ? mended(t, day) : rawNow(t, day));
    }

    int from(int p, int day, int i) {
        int fault = fault(p, "0124");
        if (fault != 0) return fault;
        List<Thing> list = menders(net.get(p), day);
        return i < 0 || i >= list.size() ? NONE : list.get(i).place;
    }

    int part(int x, int y, int day) {
        if (x < 0 || x > 9 || y < 0 || y > 9) return NONE;
        Thing t = owner(x, y, day);
        return t == null ? NONE : t.place;
    }

    int squares(int p, int day) {
        int fault = faultOfDay(p, day);
        if (fault != 0) return fault;
        int many = 0;
        for (int x = 0; x < 10; x++) for (int y = 0; y < 10; y++) if (part(x, y, day) == p) many++;
        return many;
    }

    int valley(int v, int x, int y, boolean in) {
        if (v < 0 || v > 7 || x < 0 || x > 9 || y < 0 || y > 9) return NONE;
        if (in) valleys.get(v).add(10 * x + y);
        else valleys.get(v).remove(10 * x + y);
        return valleys.get(v).size();
    }

    int rain(int v, int day) {
        if (v < 0 || v > 7 || valleys.get(v).isEmpty()) return NONE;
        int sum = 0;
        for (int square : valleys.get(v)) {
            Thing t = owner(square / 10, square % 10, day);
            if (t == null) return NONE;
            sum += told(t, day);
        }
        return sum;
    }

    int mean(int v, int day) {
        int rain = rain(v, day);
        return rain == NONE ? NONE : Math.floorDiv(rain * 1000, valleys.get(v).size());
    }

    long flow(int v, int day) {
        if (v < 0 || v > 7 || day < 0 || day > 63) return NONE;
        long sum = 0;
        for (int k = 0; k < 8; k++) {
            if (rule[4 + k] != 0) sum += (long) rule[4 + k] * Math.max(0, rain(v, day - k));
        }
        return sum;
    }

    int ahead(int v, long level) {
        if (v < 0 || v > 7) return NONE;
        for (int day = today; day <= 63; day++) if (flow(v, day) > level) return day;
        return NONE;
    }

    int week(int p, int w, int what) {
        int fault = fault(p, "0124");
        if (fault != 0) return fault;
        return w < 0 || w > 7 || what < 0 || what > 1 ? NONE : (int) weekSums(net.get(p), w)[what];
    }

    int cleft(int p) {
        int fault = fault(p, "0124");
        if (fault != 0) return fault;
        int best = NONE;
        for (int w = 1; w < today / 7; w++) {
            if (best == NONE || misses(p, w) < misses(p, best)) best = w;
        }
        return best;
    }

    long misses(int p, int w) {
        int fault = fault(p, "0124");
        if (fault != 0) return fault;
        int whole = today / 7;
        if (w < 1 || w >= whole) return NONE;
        return missesOfPart(net.get(p), 0, w - 1) + missesOfPart(net.get(p), w, whole - 1);
    }
}
