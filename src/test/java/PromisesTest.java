/** Promise by promise: ordinary calls, the edges that the document names, and wrong inputs. */
public final class PromisesTest {
    private static final int LAST_HOUR = 26279;
    private static final int END = 26280;
    private static final int YEAR = 8760;

    public static void main(String[] args) {
        promise1NewObject();
        promise2Object();
        promise3Allowed();
        promise4Lamp();
        promise5Shines();
        promise6Daylight();
        promise7Shown();
        promise7RowsOverlap();
        promise8Presence();
        promise8FirstOfTwenty();
        promise9Meter();
        promise10Flash();
        promise11Sum();
        promise11LargestSum();
        promise12Rest();
        promise13Left();
        promise14Plan();
        promise14PlanOverYears();
        promise15Breaches();
        promise16Breach();
        promise16OrderOfBreaches();
        promise17Page();
        promise18Rotate();
        promise18LowestPages();
        promise19Turned();
        promise20Count();
        Due.end();
    }

    /** One object of class 0, one lamp of 100 lux that falls on it whole. */
    private static LightDoses lit() {
        LightDoses x = new LightDoses();
        x.object(0);
        x.lamp(100);
        x.shines(0, 0, 1000);
        return x;
    }

    private static void promise1NewObject() {
        LightDoses x = new LightDoses();
        for (int what = 0; what <= 4; what++) {
            int asked = what;
            Due.is("1: count(" + what + ")", () -> x.count(asked), 0);
        }
        Due.is("1: rest()", () -> x.rest(), 0);
        Due.is("1: breaches()", () -> x.breaches(), 0);
        Due.is("1: breach(0, 0)", () -> x.breach(0, 0), Due.INDEX);
        Due.is("1: turned(0)", () -> x.turned(0), Due.INDEX);
        Due.is("1: rotate(1)", () -> x.rotate(1), LightDoses.NONE);
        LightDoses other = lit();
        Due.is("1: another object's lamps", () -> other.count(1), 1);
        Due.is("1: lamps", () -> x.count(1), 0);
    }

    private static void promise2Object() {
        LightDoses x = new LightDoses();
        Due.is("2: object(-1)", () -> x.object(-1), Due.INDEX);
        Due.is("2: object(6)", () -> x.object(6), Due.INDEX);
        for (int i = 0; i < 12; i++) {
            int c = i % 6;
            Due.is("2: object " + i, () -> x.object(c), i);
        }
        Due.is("2: a thirteenth", () -> x.object(0), Due.STATE);
        Due.is("2: a thirteenth of no class", () -> x.object(6), Due.INDEX);
        Due.is("2: count(0)", () -> x.count(0), 12);
    }

    private static void promise3Allowed() {
        LightDoses x = new LightDoses();
        Due.is("3: allowed(-1, 0)", () -> x.allowed(-1, 0), Due.INDEX);
        Due.is("3: allowed(6, -2)", () -> x.allowed(6, -2), Due.INDEX);
        for (int i = 0; i < 6; i++) {
            int c = i;
            Due.is("3: at first", () -> x.allowed(c, 10 + c), LightDoses.NONE);
        }
        Due.is("3: allowed(0, -2)", () -> x.allowed(0, -2), Due.ARGUMENT);
        Due.is("3: allowed(0, 1000000001)", () -> x.allowed(0, 1000000001), Due.ARGUMENT);
        Due.is("3: allowed(0, 1000000000)", () -> x.allowed(0, 1000000000), 10);
        Due.is("3: allowed(0, 0)", () -> x.allowed(0, 0), 1000000000);
        Due.is("3: allowed(0, NONE)", () -> x.allowed(0, LightDoses.NONE), 0);
        Due.is("3: allowed(0, 5)", () -> x.allowed(0, 5), LightDoses.NONE);
        Due.is("3: allowed(5, 5)", () -> x.allowed(5, 5), 15);
    }

    private static void promise4Lamp() {
        LightDoses x = new LightDoses();
        Due.is("4: lamp(-1)", () -> x.lamp(-1), Due.ARGUMENT);
        Due.is("4: lamp(5001)", () -> x.lamp(5001), Due.ARGUMENT);
        Due.is("4: lamp(0)", () -> x.lamp(0), 0);
        for (int i = 1; i < 8; i++) {
            Due.is("4: lamp " + i, () -> x.lamp(5000), i);
        }
        Due.is("4: a ninth", () -> x.lamp(1), Due.STATE);
        Due.is("4: a ninth of wrong lux", () -> x.lamp(-1), Due.STATE);
        x.object(0);
        x.shown(0, 0, END);
        x.shines(1, 0, 1000);
        Due.is("4: on from hour 0 to the last", () -> x.sum(0, 0, END), 5000 * END);
    }

    private static void promise5Shines() {
        LightDoses x = lit();
        Due.is("5: lamp -1", () -> x.shines(-1, 0, 0), Due.INDEX);
        Due.is("5: lamp 1", () -> x.shines(1, 0, 0), Due.INDEX);
        Due.is("5: object -1", () -> x.shines(0, -1, 0), Due.INDEX);
        Due.is("5: object 1", () -> x.shines(0, 1, -1), Due.INDEX);
        Due.is("5: share -1", () -> x.shines(0, 0, -1), Due.ARGUMENT);
        Due.is("5: share 1001", () -> x.shines(0, 0, 1001), Due.ARGUMENT);
        Due.is("5: share 1", () -> x.shines(0, 0, 1), 1000);
        x.object(0);
        x.lamp(7);
        Due.is("5: another object's share", () -> x.shines(0, 1, 500), 0);
        Due.is("5: another lamp's share", () -> x.shines(1, 0, 1000), 0);
        x.shown(0, 3, 4);
        x.shown(1, 3, 4);
        Due.is("5: object 0", () -> x.sum(0, 0, END), 7);
        Due.is("5: object 0, over", () -> x.rest(), 360000);
        Due.is("5: object 1", () -> x.sum(1, 0, END), 50);
        Due.is("5: share 0", () -> x.shines(1, 0, 0), 1000);
        Due.is("5: object 0 without lamp 1", () -> x.sum(0, 0, END), 0);
    }

    private static void promise6Daylight() {
        LightDoses x = new LightDoses();
        Due.is("6: time -1", () -> x.daylight(-1, 0), Due.INDEX);
        Due.is("6: time 24", () -> x.daylight(24, -1), Due.INDEX);
        Due.is("6: lux -1", () -> x.daylight(0, -1), Due.ARGUMENT);
        Due.is("6: lux 5001", () -> x.daylight(23, 5001), Due.ARGUMENT);
        for (int i = 0; i < 24; i++) {
            int time = i;
            Due.is("6: at first", () -> x.daylight(time, time * 10), 0);
        }
        Due.is("6: daylight(23, 5000)", () -> x.daylight(23, 5000), 230);
        x.object(0);
        x.object(1);
        x.shown(0, 0, END);
        x.shown(1, YEAR, END);
        Due.is("6: a day", () -> x.sum(0, 48, 72), 2530 + 5000);
        Due.is("6: over midnight", () -> x.sum(0, 47, 50), 5000 + 0 + 10);
        Due.is("6: a year starts at time 0", () -> x.sum(1, YEAR, YEAR + 3), 0 + 10 + 20);
        Due.is("6: the last hour", () -> x.sum(1, LAST_HOUR, END), 5000);
        Due.is("6: daylight(23, 0)", () -> x.daylight(23, 0), 5000);
        Due.is("6: all days", () -> x.sum(0, 0, END), 2530 * 1095);
    }

    private static void promise7Shown() {
        LightDoses x = lit();
        Due.is("7: object -1", () -> x.shown(-1, 0, 1), Due.INDEX);
        Due.is("7: object 1", () -> x.shown(1, 0, 0), Due.INDEX);
        Due.is("7: from -1", () -> x.shown(0, -1, 0), Due.INDEX);
        Due.is("7: from 26280", () -> x.shown(0, END, END + 1), Due.INDEX);
        Due.is("7: to is from", () -> x.shown(0, 5, 5), Due.ARGUMENT);
        Due.is("7: to below from", () -> x.shown(0, 5, 4), Due.ARGUMENT);
        Due.is("7: to 26281", () -> x.shown(0, 5, END + 1), Due.ARGUMENT);
        Due.is("7: nothing is shown", () -> x.sum(0, 0, END), 0);
        Due.is("7: the last hour", () -> x.shown(0, LAST_HOUR, END), 1);
        Due.is("7: of it", () -> x.sum(0, 0, END), 100);
        for (int i = 2; i <= 16; i++) {
            Due.is("7: row " + i, () -> x.shown(0, 7, 8), i);
        }
        Due.is("7: a seventeenth row", () -> x.shown(0, 7, 8), Due.STATE);
        Due.is("7: a wrong one", () -> x.shown(0, 7, 7), Due.STATE);
        Due.is("7: one of no hour", () -> x.shown(0, -1, 7), Due.INDEX);
        Due.is("7: each hour is shown once", () -> x.sum(0, 0, END), 200);
        x.object(0);
        Due.is("7: another object's rows", () -> x.shown(1, 0, 1), 1);
    }

    private static void promise7RowsOverlap() {
        LightDoses x = lit();
        x.shown(0, 50, 60);
        x.shown(0, 10, 40);
        x.shown(0, 20, 30);
        x.shown(0, 35, 45);
        x.shown(0, 10, 12);
        x.shown(0, 45, 46);
        Due.is("7: rows over one another", () -> x.sum(0, 0, END), 100 * (36 + 10));
        Due.is("7: the row inside", () -> x.sum(0, 25, 33), 800);
        Due.is("7: the gap", () -> x.sum(0, 46, 50), 0);
        Due.is("7: both sides of the gap", () -> x.sum(0, 44, 52), 400);
    }

    private static void promise8Presence() {
        LightDoses x = lit();
        x.shown(0, 0, END);
        Due.is("8: lamp -1", () -> x.presence(-1, 0, true), Due.INDEX);
        Due.is("8: lamp 1", () -> x.presence(1, 0, true), Due.INDEX);
        Due.is("8: hour -1", () -> x.presence(0, -1, true), Due.INDEX);
        Due.is("8: hour 26280", () -> x.presence(0, END, true), Due.INDEX);
        Due.is("8: off", () -> x.presence(0, 200, false), 1);
        Due.is("8: off before", () -> x.presence(0, 100, false), 2);
        Due.is("8: on between", () -> x.presence(0, 150, true), 3);
        Due.is("8: of it", () -> x.sum(0, 0, END), 100 * 150);
        Due.is("8: hour 200 anew", () -> x.presence(0, 200, true), 3);
        Due.is("8: of it now", () -> x.sum(0, 0, END), 100 * (END - 50));
        Due.is("8: hour 0", () -> x.presence(0, 0, false), 4);
        Due.is("8: from hour 0 off", () -> x.sum(0, 0, 150), 0);
        Due.is("8: the last hour", () -> x.presence(0, LAST_HOUR, false), 5);
        Due.is("8: without the last hour", () -> x.sum(0, 150, END), 100 * (LAST_HOUR - 150));
        for (int i = 6; i <= 20; i++) {
            int hour = 1000 * i;
            Due.is("8: hour " + hour, () -> x.presence(0, hour, true), hour / 1000);
        }
        Due.is("8: a twenty-first hour", () -> x.presence(0, 1, true), Due.STATE);
        Due.is("8: no hour, and too many", () -> x.presence(0, END, true), Due.INDEX);
        Due.is("8: one of the twenty", () -> x.presence(0, 20000, false), 20);
        Due.is("8: from it off", () -> x.sum(0, 19999, 20001), 100);
        Due.is("8: meter() has its own hours", () -> x.meter(0, 1, 1), 1);
        x.lamp(1);
        Due.is("8: another lamp's hours", () -> x.presence(1, 1, true), 1);
    }

    private static void promise8FirstOfTwenty() {
        LightDoses x = lit();
        x.shown(0, 0, END);
        for (int hour = 1; hour <= 20; hour++) {
            x.presence(0, hour, hour % 2 == 0);
            x.meter(0, 100 * hour, hour);
        }
        Due.is("8: before all of the twenty", () -> x.presence(0, 0, false), Due.STATE);
        Due.is("9: before all of the twenty", () -> x.meter(0, 99, 0), Due.STATE);
        Due.is("8: on in every other hour", () -> x.sum(0, 0, 20), 100 * 10);
        Due.is("8: on in hour 0", () -> x.sum(0, 0, 2), 100);
        Due.is("9: all changes of both kinds", () -> x.sum(0, 100, 2000), 100 * 190);
        Due.is("9: behind the last change", () -> x.sum(0, 2000, END), 20 * (END - 2000));
        Due.is("8: the first of the twenty anew", () -> x.presence(0, 1, true), 20);
        Due.is("8: on in hours 0 to 2", () -> x.sum(0, 0, 4), 300);
        Due.is("9: the first of the twenty anew", () -> x.meter(0, 100, 5), 20);
        Due.is("9: from it on", () -> x.sum(0, 99, 201), 100 + 5 * 100 + 2);
    }

    private static void promise9Meter() {
        LightDoses x = lit();
        x.shown(0, 0, END);
        Due.is("9: lamp -1", () -> x.meter(-1, 0, 1), Due.INDEX);
        Due.is("9: lamp 1", () -> x.meter(1, 0, -1), Due.INDEX);
        Due.is("9: hour -1", () -> x.meter(0, -1, 1), Due.INDEX);
        Due.is("9: hour 26280", () -> x.meter(0, END, 5001), Due.INDEX);
        Due.is("9: lux -1", () -> x.meter(0, 0, -1), Due.ARGUMENT);
        Due.is("9: lux 5001", () -> x.meter(0, 0, 5001), Due.ARGUMENT);
        Due.is("9: from 20 on", () -> x.meter(0, 20, 5000), 1);
        Due.is("9: from 10 on", () -> x.meter(0, 10, 0), 2);
        Due.is("9: of it", () -> x.sum(0, 0, 30), 100 * 10 + 5000 * 10);
        Due.is("9: from 20 on, anew", () -> x.meter(0, 20, 7), 2);
        Due.is("9: of it now", () -> x.sum(0, 0, END), 100 * 10 + 7 * (END - 20));
        x.presence(0, 15, false);
        x.presence(0, 25, true);
        Due.is("9: measured while it is off", () -> x.sum(0, 0, 30), 100 * 10 + 7 * 5);
        for (int i = 3; i <= 20; i++) {
            int hour = 1000 * i;
            Due.is("9: hour " + hour, () -> x.meter(0, hour, 1), hour / 1000);
        }
        Due.is("9: a twenty-first hour", () -> x.meter(0, 11, 1), Due.STATE);
        Due.is("9: a twenty-first hour, wrong lux", () -> x.meter(0, 11, 5001), Due.STATE);
        Due.is("9: one of the twenty, wrong lux", () -> x.meter(0, 20, 5001), Due.ARGUMENT);
        Due.is("9: one of the twenty", () -> x.meter(0, 20000, 2), 20);
        Due.is("9: the last two", () -> x.sum(0, 19000, END), 1000 + 2 * (END - 20000));
        Due.is("9: the lamp's first lux anew", () -> lit().meter(0, 0, 3), 1);
    }

    private static void promise10Flash() {
        LightDoses x = lit();
        x.object(1);
        Due.is("10: object -1", () -> x.flash(-1, 0, 1), Due.INDEX);
        Due.is("10: object 2", () -> x.flash(2, 0, -1), Due.INDEX);
        Due.is("10: hour -1", () -> x.flash(0, -1, 1), Due.INDEX);
        Due.is("10: hour 26280", () -> x.flash(0, END, -1), Due.INDEX);
        Due.is("10: -1 lux seconds", () -> x.flash(0, 0, -1), Due.ARGUMENT);
        Due.is("10: 1000000001 lux seconds", () -> x.flash(0, 0, 1000000001), Due.ARGUMENT);
        Due.is("10: of 0", () -> x.flash(0, 0, 0), 1);
        Due.is("10: on object 0", () -> x.flash(0, 9, 3601), 2);
        Due.is("10: on object 1", () -> x.flash(1, 9, 7200), 3);
        Due.is("10: not shown", () -> x.sum(0, 9, 10), 1);
        Due.is("10: over", () -> x.rest(), 1000);
        x.shown(0, 9, 10);
        Due.is("10: shown", () -> x.sum(0, 0, END), 101);
        Due.is("10: behind it", () -> x.sum(1, 10, END), 0);
        Due.is("10: up to it", () -> x.sum(1, 0, 9), 0);
        for (int i = 4; i <= 40; i++) {
            Due.is("10: flash " + i, () -> x.flash(1, LAST_HOUR, 1000000000), i);
        }
        Due.is("10: a forty-first", () -> x.flash(0, 0, 1), Due.STATE);
        Due.is("10: a wrong forty-first", () -> x.flash(0, 0, -1), Due.STATE);
        Due.is("10: one of no object", () -> x.flash(2, 0, 1), Due.INDEX);
        Due.is("10: all of one hour", () -> x.sum(1, LAST_HOUR, END), 37000000000L / 3600);
    }

    private static void promise11Sum() {
        LightDoses x = lit();
        x.shown(0, 10, 20);
        Due.is("11: object -1", () -> x.sum(-1, 0, 1), Due.INDEX);
        Due.is("11: object 1", () -> x.sum(1, 1, 0), Due.INDEX);
        Due.is("11: from -1", () -> x.sum(0, -1, 0), Due.ARGUMENT);
        Due.is("11: to below from", () -> x.sum(0, 1, 0), Due.ARGUMENT);
        Due.is("11: to 26281", () -> x.sum(0, 0, END + 1), Due.ARGUMENT);
        Due.is("11: from 26281", () -> x.sum(0, END + 1, END + 1), Due.ARGUMENT);
        Due.is("11: of no hour", () -> x.sum(0, 15, 15), 0);
        Due.is("11: of none at the start", () -> x.sum(0, 0, 0), 0);
        Due.is("11: of none at the end", () -> x.sum(0, END, END), 0);
        Due.is("11: of one", () -> x.sum(0, 19, 20), 100);
        Due.is("11: up to the first", () -> x.sum(0, 0, 10), 0);
        Due.is("11: behind the last", () -> x.sum(0, 20, END), 0);
        Due.is("11: some", () -> x.sum(0, 18, 22), 200);
    }

    private static void promise11LargestSum() {
        LightDoses x = new LightDoses();
        x.object(0);
        x.shown(0, 0, END);
        for (int lamp = 0; lamp < 8; lamp++) {
            x.lamp(5000);
            x.shines(lamp, 0, 1000);
        }
        for (int time = 0; time < 24; time++) {
            x.daylight(time, 5000);
        }
        for (int i = 0; i < 40; i++) {
            x.flash(0, 650 * i, 1000000000);
        }
        Due.is("11: the most there can be", () -> x.sum(0, 0, END), 45000L * END + 40000000000L / 3600);
        Due.is("11: over", () -> x.rest(), 40000000000L % 3600 * 1000);
        x.allowed(0, 0);
        Due.is("13: the most too many", () -> x.left(0, 0), -(45000 * YEAR + 14000000000L / 3600 + 1));
        Due.is("15: in all years", () -> x.breaches(), 3);
    }

    private static void promise12Rest() {
        LightDoses x = lit();
        x.shines(0, 0, 999);
        x.meter(0, 0, 1);
        x.shown(0, 0, 2);
        Due.is("12: sum", () -> x.sum(0, 0, 1), 0);
        Due.is("12: rest", () -> x.rest(), 3596400);
        Due.is("12: sum of two", () -> x.sum(0, 0, 2), 1);
        Due.is("12: rest of two", () -> x.rest(), 3592800);
        Due.is("12: a sum that cannot be", () -> x.sum(0, 2, 1), Due.ARGUMENT);
        x.left(0, 0);
        x.breaches();
        Due.is("12: still that of the latest", () -> x.rest(), 3592800);
        Due.is("12: sum of none", () -> x.sum(0, 5, 9), 0);
        Due.is("12: rest of none", () -> x.rest(), 0);
    }

    private static void promise13Left() {
        LightDoses x = lit();
        x.object(3);
        x.shown(0, YEAR - 1, YEAR + 2);
        Due.is("13: object -1", () -> x.left(-1, 0), Due.INDEX);
        Due.is("13: object 2", () -> x.left(2, 0), Due.INDEX);
        Due.is("13: year -1", () -> x.left(0, -1), Due.INDEX);
        Due.is("13: year 3", () -> x.left(0, 3), Due.INDEX);
        Due.is("13: without bound", () -> x.left(0, 0), Integer.MIN_VALUE);
        x.allowed(0, 150);
        Due.is("13: year 0", () -> x.left(0, 0), 50);
        Due.is("13: year 1", () -> x.left(0, 1), -50);
        Due.is("13: year 2", () -> x.left(0, 2), 150);
        Due.is("13: another class", () -> x.left(1, 0), Integer.MIN_VALUE);
        x.flash(0, 0, 1);
        x.flash(0, YEAR, 1);
        Due.is("13: rounded down", () -> x.left(0, 0), 49);
        Due.is("13: rounded down, below 0", () -> x.left(0, 1), -51);
        x.allowed(0, 1000000000);
        Due.is("13: the most", () -> x.left(0, 2), 1000000000);
    }

    private static void promise14Plan() {
        LightDoses x = lit();
        Due.is("14: object -1", () -> x.plan(-1, 0, 1), Due.INDEX);
        Due.is("14: object 1", () -> x.plan(1, 0, 0), Due.INDEX);
        Due.is("14: from -1", () -> x.plan(0, -1, 1), Due.INDEX);
        Due.is("14: from 26280", () -> x.plan(0, END, END + 1), Due.INDEX);
        Due.is("14: to is from", () -> x.plan(0, 3, 3), Due.ARGUMENT);
        Due.is("14: to 26281", () -> x.plan(0, 3, END + 1), Due.ARGUMENT);
        Due.is("14: without bound", () -> x.plan(0, 3, END), END - 3);
        x.allowed(0, 1000);
        Due.is("14: ten hours", () -> x.plan(0, 100, 300), 10);
        Due.is("14: up to the end", () -> x.plan(0, 100, 104), 4);
        x.shown(0, 105, 108);
        Due.is("14: hours in which it is shown already", () -> x.plan(0, 100, 300), 10);
        Due.is("14: from among them", () -> x.plan(0, 106, 300), 9);
        Due.is("14: what is shown later counts too", () -> x.plan(0, 50, 60), 7);
        Due.is("14: nothing is shown by it", () -> x.sum(0, 0, END), 300);
        x.flash(0, 8000, 1);
        Due.is("14: one part too many", () -> x.plan(0, 50, 60), 6);
        x.allowed(0, 300);
        Due.is("14: passed already", () -> x.plan(0, 105, 108), 0);
        x.presence(0, 200, false);
        x.allowed(0, 301);
        Due.is("14: hours without light", () -> x.plan(0, 200, 300), 100);
        Due.is("14: an hour too many", () -> x.plan(0, 199, 300), 0);
        Due.is("14: hours already shown, then one too many", () -> x.plan(0, 105, 300), 3);
        x.allowed(0, 0);
        Due.is("14: nothing is allowed", () -> x.plan(0, 200, 300), 0);
        Due.is("14: nor given", () -> x.plan(0, YEAR, END), END - YEAR);
    }

    private static void promise14PlanOverYears() {
        LightDoses x = lit();
        x.allowed(0, 1000);
        Due.is("14: ten hours of each year", () -> x.plan(0, YEAR - 10, END), 20);
        Due.is("14: not all hours of the first year", () -> x.plan(0, YEAR - 11, END), 10);
        x.shown(0, YEAR + 100, YEAR + 110);
        Due.is("14: the second year is full", () -> x.plan(0, YEAR - 4, END), 4);
        x.flash(0, 2 * YEAR - 1, 1);
        Due.is("14: the second year is passed", () -> x.plan(0, YEAR - 4, END), 4);
        x.presence(0, YEAR - 4, false);
        x.flash(0, YEAR + 1, 3600000);
        Due.is("14: passed, though no light is on", () -> x.plan(0, YEAR - 5, END), 5);
        x.allowed(0, 2001);
        Due.is("14: all three years", () -> x.plan(0, YEAR - 5, END), END - YEAR + 5);
        Due.is("14: up to an hour of the third", () -> x.plan(0, YEAR - 5, 2 * YEAR + 1), YEAR + 6);
    }

    private static void promise15Breaches() {
        LightDoses x = lit();
        x.object(1);
        x.shines(0, 1, 500);
        x.shown(0, 0, END);
        x.shown(1, 0, YEAR);
        Due.is("15: without bound", () -> x.breaches(), 0);
        x.allowed(0, 100 * YEAR);
        Due.is("15: just what is allowed", () -> x.breaches(), 0);
        x.flash(0, 0, 1);
        Due.is("15: a part more", () -> x.breaches(), 1);
        x.allowed(1, 50 * YEAR - 1);
        Due.is("15: another class", () -> x.breaches(), 2);
        x.allowed(0, 0);
        Due.is("15: in all years", () -> x.breaches(), 4);
        x.presence(0, YEAR, false);
        x.shown(1, YEAR, YEAR + 1);
        Due.is("15: off, but for the first year", () -> x.breaches(), 2);
        x.allowed(1, 0);
        Due.is("15: shown in the dark", () -> x.breaches(), 2);
        x.daylight(0, 1);
        Due.is("15: by daylight", () -> x.breaches(), 5);
        x.presence(0, 0, false);
        x.daylight(0, 0);
        Due.is("15: but for the flash it is dark", () -> x.breaches(), 1);
        x.meter(0, LAST_HOUR, 5000);
        Due.is("15: measured, but off", () -> x.breaches(), 1);
        x.presence(0, LAST_HOUR, true);
        Due.is("15: on again", () -> x.breaches(), 2);
        x.meter(0, LAST_HOUR, 0);
        Due.is("15: on, but of no lux", () -> x.breaches(), 1);
        x.meter(0, LAST_HOUR, 1);
        Due.is("15: of one lux", () -> x.breaches(), 2);
        x.shines(0, 0, 0);
        Due.is("15: no share", () -> x.breaches(), 1);
        x.lamp(1);
        x.shines(1, 1, 1);
        Due.is("15: a lamp more", () -> x.breaches(), 3);
        x.allowed(0, LightDoses.NONE);
        x.allowed(1, LightDoses.NONE);
        Due.is("15: without bound again", () -> x.breaches(), 0);
    }

    private static void promise16Breach() {
        LightDoses x = lit();
        x.allowed(0, 1000);
        x.shown(0, 20, 30);
        x.shown(0, YEAR - 1, YEAR + 1);
        Due.is("16: breach(0, 0)", () -> x.breach(0, 0), YEAR - 1);
        Due.is("16: breach(0, 1)", () -> x.breach(0, 1), 0);
        Due.is("16: breach(0, 2)", () -> x.breach(0, 2), Due.INDEX);
        Due.is("16: breach(0, -1)", () -> x.breach(0, -1), Due.INDEX);
        Due.is("16: breach(1, 0)", () -> x.breach(1, 0), Due.INDEX);
        Due.is("16: breach(-1, 0)", () -> x.breach(-1, 0), Due.INDEX);
        x.flash(0, 5, 1);
        Due.is("16: behind the tenth hour now", () -> x.breach(0, 0), 29);
        x.flash(0, 40, 1000000000);
        x.allowed(0, 1001);
        Due.is("16: behind the flash", () -> x.breach(0, 0), 40);
        x.allowed(0, 0);
        Due.is("16: behind the first light", () -> x.breach(0, 0), 5);
        Due.is("16: behind the first hour of a year", () -> x.breach(1, 0), YEAR);
        x.shown(0, LAST_HOUR, END);
        Due.is("16: behind the last hour", () -> x.breach(2, 0), LAST_HOUR);
    }

    private static void promise16OrderOfBreaches() {
        LightDoses x = new LightDoses();
        x.allowed(2, 0);
        int[][] flashes = {{3, 9}, {2, 9000}, {2, 50}, {0, 9}, {1, 9000}, {0, 20000}, {1, 8}};
        for (int i = 0; i < 4; i++) {
            x.object(2);
        }
        for (int[] flash : flashes) {
            x.flash(flash[0], flash[1], 1);
        }
        int[][] due = {{8, 1}, {9, 0}, {9, 3}, {50, 2}, {9000, 1}, {9000, 2}, {20000, 0}};
        Due.is("16: all", () -> x.breaches(), due.length);
        for (int i = 0; i < due.length; i++) {
            int k = i;
            Due.is("16: hour of " + k, () -> x.breach(k, 0), due[k][0]);
            Due.is("16: object of " + k, () -> x.breach(k, 1), due[k][1]);
        }
    }

    private static void promise17Page() {
        LightDoses x = new LightDoses();
        Due.is("17: -1 hours", () -> x.page(-1), Due.ARGUMENT);
        Due.is("17: 30001 hours", () -> x.page(30001), Due.ARGUMENT);
        Due.is("17: 0 hours", () -> x.page(0), 1);
        for (int i = 2; i <= 12; i++) {
            Due.is("17: page " + i, () -> x.page(30000), i);
        }
        Due.is("17: a thirteenth", () -> x.page(1), Due.STATE);
        Due.is("17: a thirteenth of wrong hours", () -> x.page(-1), Due.STATE);
        Due.is("17: count(3)", () -> x.count(3), 12);
        Due.is("17: pages are shown", () -> x.rotate(30000), 0);
        Due.is("17: behind the first", () -> x.turned(0), 1);
    }

    private static LightDoses book(int... hours) {
        LightDoses x = new LightDoses();
        for (int h : hours) {
            x.page(h);
        }
        return x;
    }

    private static void promise18Rotate() {
        LightDoses x = book(1, 2, 4, 8, 16, 32, 64, 128, 256, 512, 1024, 2048);
        Due.is("18: 0 hours", () -> x.rotate(0), Due.ARGUMENT);
        Due.is("18: 30001 hours", () -> x.rotate(30001), Due.ARGUMENT);
        Due.is("18: 30000 hours", () -> x.rotate(30000), LightDoses.NONE);
        Due.is("18: one page", () -> x.rotate(2048), 0);
        Due.is("18: two pages", () -> x.rotate(2049), 1);
        Due.is("18: all pages", () -> x.rotate(4095), 11);
        Due.is("18: more than all", () -> x.rotate(4096), LightDoses.NONE);
        Due.is("18: no pages", () -> book().rotate(1), LightDoses.NONE);
        Due.is("18: pages of no hours", () -> book(0, 0).rotate(1), LightDoses.NONE);
    }

    private static void rotated(String what, LightDoses x, int hours, int... pages) {
        Due.is("18: " + what, () -> x.rotate(hours), pages.length - 1);
        Due.is("18: pages, " + what, () -> x.count(4), pages.length);
        for (int i = 0; i < pages.length; i++) {
            int k = i;
            Due.is("18: page " + k + ", " + what, () -> x.turned(k), pages[k]);
        }
    }

    private static void promise18LowestPages() {
        LightDoses x = book(5, 0, 9, 7, 9, 3);
        rotated("the first page is enough", x, 5, 0);
        rotated("the first one that is enough", x, 6, 2);
        rotated("two, with the lowest first", x, 14, 0, 2);
        rotated("two without the lowest", x, 15, 2, 3);
        rotated("both of nine", x, 18, 2, 4);
        rotated("three", x, 21, 0, 2, 3);
        rotated("three, the last for the second", x, 23, 0, 2, 4);
        rotated("four", x, 26, 0, 2, 3, 4);
        rotated("all but the empty one", x, 33, 0, 2, 3, 4, 5);
        rotated("a long page counts once", book(20, 1, 8, 8), 36, 0, 2, 3);
    }

    private static void promise19Turned() {
        LightDoses x = book(3, 4);
        Due.is("19: before any", () -> x.turned(0), Due.INDEX);
        x.rotate(7);
        Due.is("19: turned(-1)", () -> x.turned(-1), Due.INDEX);
        Due.is("19: turned(0)", () -> x.turned(0), 0);
        Due.is("19: turned(1)", () -> x.turned(1), 1);
        Due.is("19: turned(2)", () -> x.turned(2), Due.INDEX);
        x.rotate(4);
        Due.is("19: turned(0) of one", () -> x.turned(0), 1);
        Due.is("19: turned(1) of one", () -> x.turned(1), Due.INDEX);
        Due.is("19: one that cannot be", () -> x.rotate(8), LightDoses.NONE);
        Due.is("19: one of wrong hours", () -> x.rotate(0), Due.ARGUMENT);
        x.page(30000);
        Due.is("19: the latest that could be", () -> x.turned(0), 1);
    }

    private static void promise20Count() {
        LightDoses x = book(3, 4, 5, 6);
        for (int i = 0; i < 3; i++) {
            x.object(i);
        }
        for (int i = 0; i < 2; i++) {
            x.lamp(i);
        }
        x.flash(0, 0, 1);
        x.rotate(18);
        x.rotate(19);
        x.page(7);
        int[] due = {3, 2, 1, 5, 4};
        for (int i = 0; i < due.length; i++) {
            int what = i;
            Due.is("20: count(" + what + ")", () -> x.count(what), due[what]);
        }
        Due.is("20: count(-1)", () -> x.count(-1), Due.INDEX);
        Due.is("20: count(5)", () -> x.count(5), Due.INDEX);
    }
}
