import java.util.ArrayList;
import java.util.Arrays;

/**
 * Light on objects: lamps that are on or off, daylight by the hour of the day, what objects got while
 * they were shown, what is left of what they are allowed in a year, and which pages of a book to show.
 */
public final class LightDoses {
    public static final int NONE = -1;

    private static final int DAY_HOURS = 24;
    private static final int YEARS = 3;
    private static final int YEAR_HOURS = 8760;
    private static final int HOURS = YEARS * YEAR_HOURS;
    private static final int CLASSES = 6;
    private static final int MOST_OBJECTS = 12;
    private static final int MOST_LAMPS = 8;
    private static final int MOST_ROWS = 16;
    private static final int MOST_CHANGES = 20;
    private static final int MOST_FLASHES = 40;
    private static final int MOST_PAGES = 12;
    private static final int MOST_BREACHES = MOST_OBJECTS * YEARS;
    private static final int MOST_LUX = 5000;
    private static final int WHOLE_SHARE = 1000;
    private static final int MOST_ALLOWED = 1000000000;
    private static final int MOST_LUX_SECONDS = 1000000000;
    private static final int MOST_PAGE_HOURS = 30000;
    private static final int WITHOUT_BOUND = -2147483648;
    private static final long PARTS_OF_LUX_HOUR = 3600000;
    private static final long PARTS_OF_SHARE = 3600;
    private static final long PARTS_OF_LUX_SECOND = 1000;
    /** Far above what all lamps, daylight and flashes can give: stands for a bound where there is none. */
    private static final long UNREACHED_PARTS = 1000000000000000000L;
    /** The largest power of two in a year's hours: searches take this step first, then halves of it. */
    private static final int YEAR_STEP = 8192;

    private final ArrayList<Exhibit> exhibits;
    private final ArrayList<Lamp> lamps;
    private final int[] allowances;
    private final Day day;
    private final Flashes flashes;
    private final Breaches found;
    private final Book book;
    private boolean foundIsFresh;
    private int partsOver;

    public LightDoses() {
        exhibits = new ArrayList<>();
        lamps = new ArrayList<>();
        allowances = new int[CLASSES];
        Arrays.fill(allowances, NONE);
        day = new Day();
        flashes = new Flashes();
        found = new Breaches();
        book = new Book();
        foundIsFresh = false;
        partsOver = 0;
    }

    public int object(int c) throws IndexOutOfBoundsException, IllegalStateException {
        checkIndex(c, CLASSES);
        if (exhibits.size() >= MOST_OBJECTS) {
            throw new IllegalStateException("there are twelve objects");
        }
        exhibits.add(new Exhibit(c));
        foundIsFresh = false;
        return exhibits.size() - 1;
    }

    public int allowed(int c, int luxHours) throws IndexOutOfBoundsException, IllegalArgumentException {
        checkIndex(c, CLASSES);
        checkArgument(luxHours, NONE, MOST_ALLOWED);
        int before = allowances[c];
        allowances[c] = luxHours;
        foundIsFresh = false;
        return before;
    }

    public int lamp(int lux) throws IllegalStateException, IllegalArgumentException {
        if (lamps.size() >= MOST_LAMPS) {
            throw new IllegalStateException("there are eight lamps");
        }
        checkArgument(lux, 0, MOST_LUX);
        lamps.add(new Lamp(lux));
        foundIsFresh = false;
        return lamps.size() - 1;
    }

    public int shines(int lamp, int object, int share) throws IndexOutOfBoundsException, IllegalArgumentException {
        checkIndex(lamp, lamps.size());
        Exhibit exhibit = exhibitOf(object);
        checkArgument(share, 0, WHOLE_SHARE);
        int before = exhibit.shares[lamp];
        exhibit.shares[lamp] = share;
        foundIsFresh = false;
        return before;
    }

    public int daylight(int time, int lux) throws IndexOutOfBoundsException, IllegalArgumentException {
        checkIndex(time, DAY_HOURS);
        checkArgument(lux, 0, MOST_LUX);
        int before = day.lux[time];
        day.put(time, lux);
        foundIsFresh = false;
        return before;
    }

    public int shown(int object, int from, int to)
            throws IndexOutOfBoundsException, IllegalStateException, IllegalArgumentException {
        Exhibit exhibit = exhibitOf(object);
        checkIndex(from, HOURS);
        if (exhibit.rows >= MOST_ROWS) {
            throw new IllegalStateException("the object has sixteen rows");
        }
        checkEnd(from, to);
        exhibit.addRow(from, to);
        foundIsFresh = false;
        return exhibit.rows;
    }

    public int presence(int lamp, int hour, boolean on) throws IndexOutOfBoundsException, IllegalStateException {
        Lamp told = lampOf(lamp);
        checkIndex(hour, HOURS);
        checkChange(told.switches, hour);
        told.turn(hour, on);
        foundIsFresh = false;
        return told.switches.size;
    }

    public int meter(int lamp, int hour, int lux)
            throws IndexOutOfBoundsException, IllegalStateException, IllegalArgumentException {
        Lamp told = lampOf(lamp);
        checkIndex(hour, HOURS);
        checkChange(told.measures, hour);
        checkArgument(lux, 0, MOST_LUX);
        told.measure(hour, lux);
        foundIsFresh = false;
        return told.measures.size;
    }

    public int flash(int object, int hour, int luxSeconds)
            throws IndexOutOfBoundsException, IllegalStateException, IllegalArgumentException {
        checkIndex(object, exhibits.size());
        checkIndex(hour, HOURS);
        if (flashes.size >= MOST_FLASHES) {
            throw new IllegalStateException("there are forty flashes");
        }
        checkArgument(luxSeconds, 0, MOST_LUX_SECONDS);
        flashes.add(object, hour, luxSeconds);
        foundIsFresh = false;
        return flashes.size;
    }

    public int sum(int object, int from, int to) throws IndexOutOfBoundsException, IllegalArgumentException {
        checkIndex(object, exhibits.size());
        checkArgument(to, 0, HOURS);
        checkArgument(from, 0, to);
        long parts = partsOf(object, from, to);
        partsOver = (int) (parts % PARTS_OF_LUX_HOUR);
        return (int) (parts / PARTS_OF_LUX_HOUR);
    }

    public int rest() {
        return partsOver;
    }

    public int left(int object, int year) throws IndexOutOfBoundsException {
        Exhibit exhibit = exhibitOf(object);
        checkIndex(year, YEARS);
        if (allowances[exhibit.kind] == NONE) {
            return WITHOUT_BOUND;
        }
        return (int) Math.floorDiv(partsLeft(object, year), PARTS_OF_LUX_HOUR);
    }

    public int plan(int object, int from, int to) throws IndexOutOfBoundsException, IllegalArgumentException {
        checkIndex(object, exhibits.size());
        checkIndex(from, HOURS);
        checkEnd(from, to);
        int hour = from;
        for (int year = from / YEAR_HOURS; year < YEARS && hour < to; year++) {
            int end = Math.min(to, (year + 1) * YEAR_HOURS);
            hour += hoursThatFit(object, hour, end);
            if (hour < end) {
                break;
            }
        }
        return hour - from;
    }

    public int breaches() {
        findBreaches();
        return found.size;
    }

    public int breach(int k, int what) throws IndexOutOfBoundsException {
        findBreaches();
        checkIndex(k, found.size);
        checkIndex(what, 2);
        return what == 0 ? found.hours[k] : found.objects[k];
    }

    public int page(int hours) throws IllegalStateException, IllegalArgumentException {
        if (book.pages >= MOST_PAGES) {
            throw new IllegalStateException("there are twelve pages");
        }
        checkArgument(hours, 0, MOST_PAGE_HOURS);
        book.add(hours);
        return book.pages;
    }

    public int rotate(int hours) throws IllegalArgumentException {
        checkArgument(hours, 1, MOST_PAGE_HOURS);
        int fewest = book.fewestPages(hours);
        if (fewest == NONE) {
            return NONE;
        }
        book.choose(fewest, hours);
        return fewest - 1;
    }

    public int turned(int k) throws IndexOutOfBoundsException {
        checkIndex(k, book.chosenPages);
        return book.chosen[k];
    }

    public int count(int what) throws IndexOutOfBoundsException {
        switch (what) {
            case 0:
                return exhibits.size();
            case 1:
                return lamps.size();
            case 2:
                return flashes.size;
            case 3:
                return book.pages;
            case 4:
                return book.chosenPages;
            default:
                throw new IndexOutOfBoundsException("there is no such count");
        }
    }

    private static void checkIndex(int index, int size) {
        if (index < 0 || index >= size) {
            throw new IndexOutOfBoundsException("there is none of this number");
        }
    }

    private static void checkArgument(int value, int lowest, int highest) {
        if (value < lowest || value > highest) {
            throw new IllegalArgumentException("the value is out of its bounds");
        }
    }

    private static void checkEnd(int from, int to) {
        if (to <= from || to > HOURS) {
            throw new IllegalArgumentException("the end is not above the start, or too late");
        }
    }

    private static void checkChange(Changes changes, int hour) {
        if (changes.size >= MOST_CHANGES && !changes.tells(hour)) {
            throw new IllegalStateException("twenty other hours tell this of the lamp");
        }
    }

    private Exhibit exhibitOf(int object) {
        checkIndex(object, exhibits.size());
        return exhibits.get(object);
    }

    private Lamp lampOf(int lamp) {
        checkIndex(lamp, lamps.size());
        return lamps.get(lamp);
    }

    /** All that an object got in some hours. */
    private long partsOf(int object, int from, int to) {
        return partsWhileShown(exhibitOf(object), from, to)
            + PARTS_OF_LUX_SECOND * flashes.luxSeconds(object, from, to);
    }

    private long partsWhileShown(Exhibit exhibit, int from, int to) {
        long parts = 0;
        int counted = from;
        for (int row = 0; row < exhibit.rows; row++) {
            int start = Math.max(counted, exhibit.starts[row]);
            int end = Math.min(to, exhibit.ends[row]);
            if (start < end) {
                parts += partsIfShown(exhibit, start, end);
                counted = end;
            }
        }
        return parts;
    }

    /** What lamps and daylight give to an object that is shown in all of these hours. */
    private long partsIfShown(Exhibit exhibit, int from, int to) {
        long parts = PARTS_OF_LUX_HOUR * (day.luxHoursBefore(to) - day.luxHoursBefore(from));
        for (int i = 0; i < lamps.size(); i++) {
            int share = exhibit.shares[i];
            if (share > 0) {
                Lamp lamp = lamps.get(i);
                parts += PARTS_OF_SHARE * share * (lamp.luxHoursBefore(to) - lamp.luxHoursBefore(from));
            }
        }
        return parts;
    }

    /** What an object is allowed in a year. */
    private long partsAllowed(int object) {
        int allowance = allowances[exhibitOf(object).kind];
        return allowance == NONE ? UNREACHED_PARTS : PARTS_OF_LUX_HOUR * allowance;
    }

    private long partsLeft(int object, int year) {
        int start = year * YEAR_HOURS;
        return partsAllowed(object) - partsOf(object, start, start + YEAR_HOURS);
    }

    /** How many of these hours of one year, from the first on, an object can be shown in. */
    private int hoursThatFit(int object, int from, int end) {
        long left = partsLeft(object, from / YEAR_HOURS);
        if (left < 0) {
            return 0;
        }
        Exhibit exhibit = exhibitOf(object);
        int fit = 0;
        for (int step = YEAR_STEP; step > 0; step /= 2) {
            int hour = from + fit + step;
            if (hour <= end && partsIfShown(exhibit, from, hour) - partsWhileShown(exhibit, from, hour) <= left) {
                fit += step;
            }
        }
        return fit;
    }

    private void findBreaches() {
        if (foundIsFresh) {
            return;
        }
        found.size = 0;
        for (int object = 0; object < exhibits.size(); object++) {
            for (int year = 0; year < YEARS; year++) {
                if (partsLeft(object, year) < 0) {
                    found.add(hourOfBreach(object, year), object);
                }
            }
        }
        foundIsFresh = true;
    }

    private int hourOfBreach(int object, int year) {
        long bound = partsAllowed(object);
        int start = year * YEAR_HOURS;
        int end = start + YEAR_HOURS;
        int hour = start;
        for (int step = YEAR_STEP; step > 0; step /= 2) {
            if (hour + step <= end && partsOf(object, start, hour + step) <= bound) {
                hour += step;
            }
        }
        return hour;
    }

    /** An object: its class, its rows in the order of their starts, and the lamps' shares. */
    private static final class Exhibit {
        final int kind;
        final int[] shares;
        final int[] starts;
        final int[] ends;
        int rows;

        Exhibit(int kind) {
            this.kind = kind;
            shares = new int[MOST_LAMPS];
            starts = new int[MOST_ROWS];
            ends = new int[MOST_ROWS];
            rows = 0;
        }

        void addRow(int from, int to) {
            if (rows >= MOST_ROWS) {
                return;
            }
            int place = rows;
            while (place > 0 && starts[place - 1] > from) {
                starts[place] = starts[place - 1];
                ends[place] = ends[place - 1];
                place--;
            }
            starts[place] = from;
            ends[place] = to;
            rows++;
        }
    }

    /** What is told of a lamp from some hours on, in the order of these hours. */
    private static final class Changes {
        /** The largest power of two in the number of changes. */
        private static final int CHANGES_STEP = 16;

        final int first;
        final int[] hours;
        final int[] values;
        int size;

        Changes(int first) {
            this.first = first;
            hours = new int[MOST_CHANGES];
            values = new int[MOST_CHANGES];
            size = 0;
        }

        private int countUpTo(int hour) {
            int before = 0;
            for (int step = CHANGES_STEP; step > 0; step /= 2) {
                if (before + step <= size && hours[before + step - 1] <= hour) {
                    before += step;
                }
            }
            return before;
        }

        boolean tells(int hour) {
            int place = countUpTo(hour);
            return place > 0 && hours[place - 1] == hour;
        }

        void tell(int hour, int value) {
            int place = countUpTo(hour);
            if (place > 0 && hours[place - 1] == hour) {
                values[place - 1] = value;
            } else if (size < MOST_CHANGES) {
                for (int i = size; i > place; i--) {
                    hours[i] = hours[i - 1];
                    values[i] = values[i - 1];
                }
                hours[place] = hour;
                values[place] = value;
                size++;
            }
        }

        int valueAt(int hour) {
            int place = countUpTo(hour);
            return place > 0 ? values[place - 1] : first;
        }

        int nextBehind(int hour) {
            int place = countUpTo(hour);
            return place < size ? hours[place] : HOURS;
        }
    }

    /** A lamp. Its time is cut into pieces of even light, so that a sum need not go through the hours. */
    private static final class Lamp {
        private static final int ON = 1;
        private static final int OFF = 0;
        private static final int MOST_PIECES = 2 * MOST_CHANGES + 1;
        /** The largest power of two in the number of pieces. */
        private static final int PIECES_STEP = 32;

        final Changes switches;
        final Changes measures;
        private final int[] starts;
        private final int[] lux;
        private final long[] luxHours;
        private int pieces;

        Lamp(int firstLux) {
            switches = new Changes(ON);
            measures = new Changes(firstLux);
            starts = new int[MOST_PIECES];
            lux = new int[MOST_PIECES];
            luxHours = new long[MOST_PIECES];
            pieces = 0;
            cut();
        }

        void turn(int hour, boolean on) {
            switches.tell(hour, on ? ON : OFF);
            cut();
        }

        void measure(int hour, int measured) {
            measures.tell(hour, measured);
            cut();
        }

        private void cut() {
            long gathered = 0;
            int hour = 0;
            pieces = 0;
            while (pieces < MOST_PIECES && hour < HOURS) {
                int next = Math.min(switches.nextBehind(hour), measures.nextBehind(hour));
                starts[pieces] = hour;
                lux[pieces] = switches.valueAt(hour) == ON ? measures.valueAt(hour) : 0;
                luxHours[pieces] = gathered;
                gathered += (long) lux[pieces] * (next - hour);
                hour = next;
                pieces++;
            }
        }

        long luxHoursBefore(int hour) {
            int piece = 0;
            for (int step = PIECES_STEP; step > 0; step /= 2) {
                if (piece + step < pieces && starts[piece + step] <= hour) {
                    piece += step;
                }
            }
            return luxHours[piece] + (long) lux[piece] * (hour - starts[piece]);
        }
    }

    /** Daylight by the time of day, with its sums from midnight on. */
    private static final class Day {
        final int[] lux;
        private final long[] luxHours;

        Day() {
            lux = new int[DAY_HOURS];
            luxHours = new long[DAY_HOURS + 1];
        }

        void put(int time, int luxThen) {
            if (time < 0 || time >= DAY_HOURS) {
                return;
            }
            lux[time] = luxThen;
            for (int i = time; i < DAY_HOURS; i++) {
                luxHours[i + 1] = luxHours[i] + lux[i];
            }
        }

        long luxHoursBefore(int hour) {
            if (hour < 0) {
                return 0;
            }
            return hour / DAY_HOURS * luxHours[DAY_HOURS] + luxHours[hour % DAY_HOURS];
        }
    }

    /** The flashes on all objects. */
    private static final class Flashes {
        private final int[] objects;
        private final int[] hours;
        private final int[] strengths;
        int size;

        Flashes() {
            objects = new int[MOST_FLASHES];
            hours = new int[MOST_FLASHES];
            strengths = new int[MOST_FLASHES];
            size = 0;
        }

        void add(int object, int hour, int luxSeconds) {
            if (size >= MOST_FLASHES) {
                return;
            }
            objects[size] = object;
            hours[size] = hour;
            strengths[size] = luxSeconds;
            size++;
        }

        long luxSeconds(int object, int from, int to) {
            long total = 0;
            for (int i = 0; i < size; i++) {
                if (objects[i] == object && hours[i] >= from && hours[i] < to) {
                    total += strengths[i];
                }
            }
            return total;
        }
    }

    /** Breaches, in the order of hours, then objects. */
    private static final class Breaches {
        final int[] hours;
        final int[] objects;
        int size;

        Breaches() {
            hours = new int[MOST_BREACHES];
            objects = new int[MOST_BREACHES];
            size = 0;
        }

        /** Objects come in their order: behind those of the same hour is the right place. */
        void add(int hour, int object) {
            if (size >= MOST_BREACHES) {
                return;
            }
            int place = size;
            while (place > 0 && hours[place - 1] > hour) {
                hours[place] = hours[place - 1];
                objects[place] = objects[place - 1];
                place--;
            }
            hours[place] = hour;
            objects[place] = object;
            size++;
        }
    }

    /** A book: for how long each page may be shown, and the pages of the latest way to show it. */
    private static final class Book {
        private final int[] hours;
        final int[] chosen;
        int pages;
        int chosenPages;

        Book() {
            hours = new int[MOST_PAGES];
            chosen = new int[MOST_PAGES];
            pages = 0;
            chosenPages = 0;
        }

        void add(int pageHours) {
            if (pages >= MOST_PAGES) {
                return;
            }
            hours[pages] = pageHours;
            pages++;
        }

        int fewestPages(int needed) {
            for (int picks = 1; picks <= pages; picks++) {
                if (mostHours(0, picks) >= needed) {
                    return picks;
                }
            }
            return NONE;
        }

        /** A page is taken as soon as the best pages behind it can make up for what is needed beside it. */
        void choose(int picks, int needed) {
            int missing = needed;
            chosenPages = 0;
            for (int page = 0; page < pages && chosenPages < picks; page++) {
                if (hours[page] + mostHours(page + 1, picks - chosenPages - 1) >= missing) {
                    missing -= hours[page];
                    chosen[chosenPages] = page;
                    chosenPages++;
                }
            }
        }

        /** The sum of the longest pages, so many of them, from a page on. */
        private int mostHours(int from, int picks) {
            int total = 0;
            int taken = 0;
            for (int i = 0; i < picks; i++) {
                int best = NONE;
                for (int page = from; page < pages; page++) {
                    if ((taken >> page & 1) == 0 && (best == NONE || hours[page] > hours[best])) {
                        best = page;
                    }
                }
                if (best == NONE) {
                    break;
                }
                taken |= 1 << best;
                total += hours[best];
            }
            return total;
        }
    }
}
