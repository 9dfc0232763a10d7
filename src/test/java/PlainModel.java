import java.util.ArrayList;
import java.util.Arrays;
import java.util.List;
import java.util.TreeMap;

/** The document told hour by hour and subset by subset, without any short cut, to compare the class with. */
final class PlainModel {
    static final int HOURS = 26280;
    static final int YEAR = 8760;
    static final long LUX_HOUR = 3600000;

    final List<Integer> classes = new ArrayList<>();
    final int[] allowances = new int[6];
    final List<Integer> firstLux = new ArrayList<>();
    final List<TreeMap<Integer, Boolean>> presences = new ArrayList<>();
    final List<TreeMap<Integer, Integer>> meters = new ArrayList<>();
    final int[][] lampLux = new int[8][HOURS];
    final int[][] shares = new int[8][12];
    final int[] daylights = new int[24];
    final int[] rows = new int[12];
    final boolean[][] isShown = new boolean[12][HOURS];
    final long[][] flashParts = new long[12][HOURS];
    final List<Integer> pages = new ArrayList<>();
    List<Integer> turnedPages = new ArrayList<>();
    int flashes = 0;
    int restParts = 0;

    PlainModel() {
        Arrays.fill(allowances, -1);
    }

    private static void index(boolean good) {
        if (!good) {
            throw new IndexOutOfBoundsException();
        }
    }

    private static void state(boolean good) {
        if (!good) {
            throw new IllegalStateException();
        }
    }

    private static void argument(boolean good) {
        if (!good) {
            throw new IllegalArgumentException();
        }
    }

    private boolean isObject(int object) {
        return object >= 0 && object < classes.size();
    }

    private boolean isLamp(int lamp) {
        return lamp >= 0 && lamp < firstLux.size();
    }

    private static boolean isHour(int hour) {
        return hour >= 0 && hour < HOURS;
    }

    private static boolean isLux(int lux) {
        return lux >= 0 && lux <= 5000;
    }

    int object(int c) {
        index(c >= 0 && c <= 5);
        state(classes.size() < 12);
        classes.add(c);
        return classes.size() - 1;
    }

    int allowed(int c, int luxHours) {
        index(c >= 0 && c <= 5);
        argument(luxHours >= -1 && luxHours <= 1000000000);
        int was = allowances[c];
        allowances[c] = luxHours;
        return was;
    }

    int lamp(int lux) {
        state(firstLux.size() < 8);
        argument(isLux(lux));
        firstLux.add(lux);
        presences.add(new TreeMap<>());
        meters.add(new TreeMap<>());
        layLampOut(firstLux.size() - 1);
        return firstLux.size() - 1;
    }

    private void layLampOut(int lamp) {
        boolean on = true;
        int lux = firstLux.get(lamp);
        for (int h = 0; h < HOURS; h++) {
            on = presences.get(lamp).getOrDefault(h, on);
            lux = meters.get(lamp).getOrDefault(h, lux);
            lampLux[lamp][h] = on ? lux : 0;
        }
    }

    int shines(int lamp, int object, int share) {
        index(isLamp(lamp) && isObject(object));
        argument(share >= 0 && share <= 1000);
        int was = shares[lamp][object];
        shares[lamp][object] = share;
        return was;
    }

    int daylight(int time, int lux) {
        index(time >= 0 && time <= 23);
        argument(isLux(lux));
        int was = daylights[time];
        daylights[time] = lux;
        return was;
    }

    int shown(int object, int from, int to) {
        index(isObject(object) && isHour(from));
        state(rows[object] < 16);
        argument(to > from && to <= HOURS);
        Arrays.fill(isShown[object], from, to, true);
        return ++rows[object];
    }

    int presence(int lamp, int hour, boolean on) {
        index(isLamp(lamp) && isHour(hour));
        TreeMap<Integer, Boolean> told = presences.get(lamp);
        state(told.size() < 20 || told.containsKey(hour));
        told.put(hour, on);
        layLampOut(lamp);
        return told.size();
    }

    int meter(int lamp, int hour, int lux) {
        index(isLamp(lamp) && isHour(hour));
        TreeMap<Integer, Integer> told = meters.get(lamp);
        state(told.size() < 20 || told.containsKey(hour));
        argument(isLux(lux));
        told.put(hour, lux);
        layLampOut(lamp);
        return told.size();
    }

    int flash(int object, int hour, int luxSeconds) {
        index(isObject(object) && isHour(hour));
        state(flashes < 40);
        argument(luxSeconds >= 0 && luxSeconds <= 1000000000);
        flashParts[object][hour] += luxSeconds * 1000L;
        return ++flashes;
    }

    private long partsIfShown(int object, int hour) {
        long parts = LUX_HOUR * daylights[hour % 24];
        for (int lamp = 0; lamp < firstLux.size(); lamp++) {
            parts += 3600L * shares[lamp][object] * lampLux[lamp][hour];
        }
        return parts;
    }

    long parts(int object, int from, int to) {
        long parts = 0;
        for (int h = from; h < to; h++) {
            parts += flashParts[object][h] + (isShown[object][h] ? partsIfShown(object, h) : 0);
        }
        return parts;
    }

    int sum(int object, int from, int to) {
        index(isObject(object));
        argument(0 <= from && from <= to && to <= HOURS);
        long parts = parts(object, from, to);
        restParts = (int) (parts % LUX_HOUR);
        return Math.toIntExact(parts / LUX_HOUR);
    }

    int rest() {
        return restParts;
    }

    private boolean passes(int object, long parts) {
        int allowance = allowances[classes.get(object)];
        return allowance != -1 && parts > allowance * LUX_HOUR;
    }

    int left(int object, int year) {
        index(isObject(object) && year >= 0 && year <= 2);
        int allowance = allowances[classes.get(object)];
        if (allowance == -1) {
            return -2147483648;
        }
        long left = allowance * LUX_HOUR - parts(object, year * YEAR, year * YEAR + YEAR);
        long whole = left / LUX_HOUR;
        return Math.toIntExact(whole * LUX_HOUR > left ? whole - 1 : whole);
    }

    int plan(int object, int from, int to) {
        index(isObject(object) && isHour(from));
        argument(to > from && to <= HOURS);
        long[] yearParts = new long[3];
        for (int year = 0; year < 3; year++) {
            yearParts[year] = parts(object, year * YEAR, year * YEAR + YEAR);
        }
        for (int h = from; h < to; h++) {
            yearParts[h / YEAR] += isShown[object][h] ? 0 : partsIfShown(object, h);
            if (passes(object, yearParts[h / YEAR])) {
                return h - from;
            }
        }
        return to - from;
    }

    private List<int[]> allBreaches() {
        List<int[]> all = new ArrayList<>();
        for (int object = 0; object < classes.size(); object++) {
            long parts = 0;
            boolean passed = false;
            for (int h = 0; h < HOURS; h++) {
                if (h % YEAR == 0) {
                    parts = 0;
                    passed = false;
                }
                parts += parts(object, h, h + 1);
                if (!passed && passes(object, parts)) {
                    passed = true;
                    all.add(new int[] {h, object});
                }
            }
        }
        all.sort((a, b) -> a[0] != b[0] ? Integer.compare(a[0], b[0]) : Integer.compare(a[1], b[1]));
        return all;
    }

    int breaches() {
        return allBreaches().size();
    }

    int breach(int k, int what) {
        List<int[]> all = allBreaches();
        index(k >= 0 && k < all.size() && what >= 0 && what <= 1);
        return all.get(k)[what];
    }

    int page(int hours) {
        state(pages.size() < 12);
        argument(hours >= 0 && hours <= 30000);
        pages.add(hours);
        return pages.size();
    }

    private List<Integer> pagesOf(int set) {
        List<Integer> in = new ArrayList<>();
        for (int page = 0; page < pages.size(); page++) {
            if ((set >> page & 1) != 0) {
                in.add(page);
            }
        }
        return in;
    }

    private static boolean better(List<Integer> a, List<Integer> b) {
        if (b == null || a.size() != b.size()) {
            return b == null || a.size() < b.size();
        }
        for (int i = 0; i < a.size(); i++) {
            if (!a.get(i).equals(b.get(i))) {
                return a.get(i) < b.get(i);
            }
        }
        return false;
    }

    int rotate(int hours) {
        argument(hours >= 1 && hours <= 30000);
        List<Integer> best = null;
        for (int set = 1; set < 1 << pages.size(); set++) {
            List<Integer> in = pagesOf(set);
            int total = 0;
            for (int page : in) {
                total += pages.get(page);
            }
            if (total >= hours && better(in, best)) {
                best = in;
            }
        }
        if (best == null) {
            return -1;
        }
        turnedPages = best;
        return best.size() - 1;
    }

    int turned(int k) {
        index(k >= 0 && k < turnedPages.size());
        return turnedPages.get(k);
    }

    int count(int what) {
        index(what >= 0 && what <= 4);
        int[] counts = {classes.size(), firstLux.size(), flashes, pages.size(), turnedPages.size()};
        return counts[what];
    }
}
