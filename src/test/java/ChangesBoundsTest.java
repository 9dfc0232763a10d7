/** Promises 1 to 10 and 17, which change something: each sentence that names a bound has a test of its own. */
public final class ChangesBoundsTest {
    private static final int MIN = Run.MIN;
    private static final int MAX = Run.MAX;

    public static void main(String[] args) {
        nothing();
        nothingOfOthers();
        objectsNumber();
        objectsClass();
        twelveObjects();
        allowedNone();
        allowedBefore();
        allowedClass();
        allowedRange();
        lampsNumber();
        eightLamps();
        lampsLux();
        shareBefore();
        shareOfNoLampOrObject();
        shareRange();
        daylightBefore();
        daylightTime();
        daylightLux();
        shownToAnHour();
        shownRows();
        shownObjectOrHour();
        sixteenRows();
        shownEnd();
        toldBeforeGoes();
        hoursThatTell();
        presenceOfNoLampOrHour();
        twentyHours();
        noneOfTheTwenty();
        measuredBeforeGoes();
        hoursThatMeasure();
        meterOfNoLampOrHour();
        twentyMeasures();
        twentyOfEach();
        meterLux();
        meterLuxBehindTheOthers();
        howManyFlashes();
        flashObjectOrHour();
        fortyFlashes();
        flashRange();
        howManyPages();
        twelvePages();
        pageHours();
        Due.end();
    }

    private static void nothing() {
        Run run = new Run("1, 'Nothing.'")
            .is("rest", 0).is("breaches", 0).is("count 0", 0).is("count 1", 0).is("count 2", 0).is("count 3", 0)
            .is("count 4", 0).is("rotate 1", -1).is("rotate 30000", -1);
        run.refuses("left 0 0", Due.INDEX).refuses("sum 0 0 0", Due.INDEX).refuses("plan 0 0 1", Due.INDEX)
            .refuses("breach 0 0", Due.INDEX).refuses("breach 0 1", Due.INDEX).refuses("turned 0", Due.INDEX)
            .refuses("shines 0 0 0", Due.INDEX).refuses("shown 0 0 1", Due.INDEX).refuses("flash 0 0 0", Due.INDEX)
            .refuses("presence 0 0 on", Due.INDEX).refuses("meter 0 0 0", Due.INDEX);
        for (int c = 0; c < 6; c++) {
            run.is("allowed " + c + " NONE", -1);
        }
        for (int time = 0; time < 24; time++) {
            run.is("daylight " + time + " 0", 0);
        }
        run.is("object 0", 0).is("lamp 0", 0).is("page 0", 1);
    }

    private static void nothingOfOthers() {
        Run.withSomeOfAll("1: a first one");
        new Run("1, 'Nothing.', though another one has some of all")
            .is("count 0", 0).is("count 1", 0).is("count 2", 0).is("count 3", 0).is("count 4", 0).is("rest", 0)
            .is("object 0", 0).is("lamp 7", 0).is("shines 0 0 0", 0).is("daylight 9 0", 0).is("allowed 0 0", -1)
            .is("shown 0 0 1", 1).is("presence 0 0 on", 1).is("meter 0 0 0", 1).is("flash 0 0 0", 1).is("page 1", 1);
    }

    private static void objectsNumber() {
        Run run = new Run("2, 'An object of a class: its number'");
        for (int object = 0; object < 12; object++) {
            run.is("count 0", object).is("object " + object % 6, object);
        }
        for (int c = 0; c < 6; c++) {
            run.is("allowed " + c + " " + (10 + c), -1).is("left " + c + " 0", 10 + c)
                .is("left " + (6 + c) + " 0", 10 + c);
        }
    }

    private static void objectsClass() {
        Run.withSomeOfAll("2, 'IndexOutOfBoundsException: class'")
            .refusesEach("object %", Due.INDEX, MIN, -1, 6, MAX).is("object 5", 3).is("object 0", 4);
    }

    private static void twelveObjects() {
        Run run = new Run("2, 'IllegalStateException: there are twelve'");
        for (int object = 0; object < 12; object++) {
            run.is("object 0", object);
        }
        run.refusesEach("object %", Due.STATE, 0, 5, 0).is("count 0", 12).is("shown 11 0 1", 1);
    }

    private static void allowedNone() {
        Run.lit("3, '(NONE: without bound)'")
            .is("allowed 0 0", -1).is("breaches", 3).is("left 0 0", -876000).is("plan 0 0 26280", 0)
            .is("allowed 0 NONE", 0).is("breaches", 0).is("left 0 0", MIN).is("plan 0 0 26280", 26280)
            .is("allowed 0 0", -1).is("breaches", 3);
    }

    private static void allowedBefore() {
        new Run("3, 'What a class is allowed ...: what it was'")
            .is("allowed 0 NONE", -1).is("allowed 0 0", -1).is("allowed 0 1000000000", 0)
            .is("allowed 0 NONE", 1000000000).is("allowed 0 5", -1).is("allowed 5 6", -1).is("allowed 5 7", 6)
            .is("allowed 0 5", 5).is("allowed 0 5", 5);
    }

    private static void allowedClass() {
        Run.withSomeOfAll("3, 'IndexOutOfBoundsException'")
            .refusesEach("allowed % 5", Due.INDEX, MIN, -1, 6, MAX).is("allowed 5 1", 0).is("allowed 0 1", 2000);
    }

    private static void allowedRange() {
        Run.withSomeOfAll("3, 'luxHours is not NONE .. 1000000000'")
            .refusesEach("allowed 0 %", Due.ARGUMENT, MIN, -2, 1000000001, MAX)
            .is("allowed 0 NONE", 2000).is("allowed 0 1000000000", -1).is("allowed 0 0", 1000000000);
    }

    private static void lampsNumber() {
        Run run = new Run("4, 'A lamp, on: its number'").with("object 0", "shown 0 0 26280");
        for (int lamp = 0; lamp < 8; lamp++) {
            run.is("count 1", lamp).is("lamp " + (lamp + 1), lamp).is("shines " + lamp + " 0 1000", 0)
                .hour(0, 0, (lamp + 1) * (lamp + 2) / 2).hour(0, 26279, (lamp + 1) * (lamp + 2) / 2);
        }
    }

    private static void eightLamps() {
        Run run = new Run("4, 'IllegalStateException: there are eight'").with("object 0");
        for (int lamp = 0; lamp < 8; lamp++) {
            run.is("lamp 5", lamp);
        }
        run.refusesEach("lamp %", Due.STATE, 0, 5, 5000).is("count 1", 8).is("shines 7 0 1", 0);
    }

    private static void lampsLux() {
        Run.withSomeOfAll("4, 'lux is not 0 .. 5000'")
            .refusesEach("lamp %", Due.ARGUMENT, MIN, -1, 5001, MAX).is("lamp 0", 2).is("lamp 5000", 3);
    }

    private static void shareBefore() {
        new Run("5, 'A lamp's share on an object: what it was'")
            .with("object 0", "object 0", "lamp 1", "lamp 1")
            .is("shines 0 0 1000", 0).is("shines 0 0 1", 1000).is("shines 0 1 2", 0).is("shines 1 0 3", 0)
            .is("shines 1 1 4", 0).is("shines 0 0 0", 1).is("shines 0 1 0", 2).is("shines 1 0 0", 3)
            .is("shines 1 1 0", 4).is("shines 0 0 0", 0);
    }

    private static void shareOfNoLampOrObject() {
        Run.withSomeOfAll("5, 'IndexOutOfBoundsException'")
            .refusesEach("shines % 0 7", Due.INDEX, MIN, -1, 2, MAX)
            .refusesEach("shines 0 % 7", Due.INDEX, MIN, -1, 3, MAX)
            .is("shines 1 2 7", 999).is("shines 0 0 7", 1000);
    }

    private static void shareRange() {
        Run.withSomeOfAll("5, 'it is not 0 .. 1000'")
            .refusesEach("shines 1 2 %", Due.ARGUMENT, MIN, -1, 1001, MAX)
            .is("shines 1 2 0", 999).is("shines 1 2 1000", 0).is("shines 1 2 0", 1000);
    }

    private static void daylightBefore() {
        new Run("6, 'Daylight at a time of day: what it was'")
            .is("daylight 0 5", 0).is("daylight 23 6", 0).is("daylight 0 5000", 5).is("daylight 0 0", 5000)
            .is("daylight 0 1", 0).is("daylight 23 6", 6).is("daylight 1 0", 0).is("daylight 22 0", 0);
    }

    private static void daylightTime() {
        Run.withSomeOfAll("6, 'IndexOutOfBoundsException: time'")
            .refusesEach("daylight % 7", Due.INDEX, MIN, -1, 24, MAX).is("daylight 0 7", 5).is("daylight 23 7", 17);
    }

    private static void daylightLux() {
        Run.withSomeOfAll("6, 'lux is not 0 .. 5000'")
            .refusesEach("daylight 9 %", Due.ARGUMENT, MIN, -1, 5001, MAX)
            .is("daylight 9 0", 300).is("daylight 9 5000", 0).is("daylight 9 0", 5000);
    }

    private static void shownToAnHour() {
        new Run("7, 'shown from an hour on, to another one (which is not)'")
            .with("object 0", "lamp 100", "shines 0 0 1000", "shown 0 5 6", "shown 0 10 12")
            .hour(0, 4, 0).hour(0, 5, 100).hour(0, 6, 0).hour(0, 9, 0).hour(0, 10, 100).hour(0, 11, 100)
            .hour(0, 12, 0)
            .with("shown 0 6 7", "shown 0 26279 26280")
            .hour(0, 6, 100).hour(0, 7, 0).hour(0, 26278, 0).hour(0, 26279, 100);
    }

    private static void shownRows() {
        new Run("7, 'how many rows it has'").with("object 0", "object 0")
            .is("shown 0 5 10", 1).is("shown 0 5 10", 2).is("shown 0 6 7", 3).is("shown 0 10 11", 4)
            .is("shown 1 5 10", 1).is("shown 0 0 26280", 5).is("shown 1 0 1", 2);
    }

    private static void shownObjectOrHour() {
        Run.withSomeOfAll("7, 'object, or from is no hour'")
            .refusesEach("shown % 0 1", Due.INDEX, MIN, -1, 3, MAX)
            .refusesEach("shown 0 % 26280", Due.INDEX, MIN, -1, 26280, MAX)
            .is("shown 0 0 1", 3).is("shown 2 26279 26280", 2);
    }

    private static void sixteenRows() {
        Run run = new Run("7, 'it has sixteen'").with("object 0", "object 0", "lamp 100", "shines 0 0 1000");
        for (int row = 1; row <= 16; row++) {
            run.is("shown 0 7 9", row);
        }
        run.refuses("shown 0 7 9", Due.STATE).refuses("shown 0 20 30", Due.STATE).is("sum 0 0 26280", 200)
            .is("shown 1 7 9", 1);
    }

    private static void shownEnd() {
        Run.withSomeOfAll("7, 'to is not above from, or above 26280'")
            .refusesEach("shown 0 20 %", Due.ARGUMENT, MIN, -1, 0, 19, 20, 26281, MAX)
            .refusesEach("shown 0 0 %", Due.ARGUMENT, MIN, -1, 0, 26281, MAX)
            .refusesEach("shown 0 26279 %", Due.ARGUMENT, 0, 26278, 26279, 26281, MAX)
            .is("shown 0 0 1", 3).is("shown 0 20 21", 4).is("shown 0 26279 26280", 5).is("shown 0 0 26280", 6);
    }

    private static void toldBeforeGoes() {
        Run.lit("8, '(what was told for this hour before goes)'")
            .is("presence 0 10 off", 1).is("presence 0 10 on", 1).hour(0, 9, 100).hour(0, 10, 100)
            .is("presence 0 10 off", 1).hour(0, 9, 100).hour(0, 10, 0).hour(0, 26279, 0)
            .is("presence 0 0 off", 2).is("presence 0 0 on", 2).hour(0, 0, 100).hour(0, 9, 100)
            .is("presence 0 26279 on", 3).is("presence 0 26279 off", 3).hour(0, 26279, 0);
    }

    private static void hoursThatTell() {
        Run.lit("8, 'how many hours tell this of it'").with("lamp 1")
            .is("presence 0 10 on", 1).is("presence 0 11 on", 2).is("presence 0 9 on", 3).is("presence 0 10 on", 3)
            .is("presence 1 10 off", 1).is("meter 0 10 5", 1).is("presence 0 26279 off", 4).is("presence 0 0 on", 5)
            .is("presence 1 10 on", 1).is("presence 1 0 on", 2);
    }

    private static void presenceOfNoLampOrHour() {
        Run.withSomeOfAll("8, 'IndexOutOfBoundsException'")
            .refusesEach("presence % 5 off", Due.INDEX, MIN, -1, 2, MAX)
            .refusesEach("presence 0 % off", Due.INDEX, MIN, -1, 26280, MAX)
            .is("presence 0 0 off", 3).is("presence 1 26279 off", 3);
    }

    private static void twentyHours() {
        Run run = Run.lit("8, 'there are 20'").with("lamp 1");
        for (int hour = 1; hour <= 20; hour++) {
            run.is("presence 0 " + 10 * hour + (hour % 2 == 0 ? " on" : " off"), hour);
        }
        run.refusesEach("presence 0 % off", Due.STATE, 0, 9, 11, 199, 201, 26279)
            .refusesEach("presence 0 % on", Due.STATE, 0, 9, 11, 199, 201, 26279)
            .is("sum 0 0 200", 100 * 100).is("sum 0 200 26280", 100 * 26080)
            .is("presence 1 1 off", 1).is("meter 0 1 1", 1);
    }

    private static void noneOfTheTwenty() {
        Run run = Run.lit("8, 'and this is none of them'");
        for (int hour = 0; hour < 20; hour++) {
            run.with("presence 0 " + (hour < 19 ? 10 * hour : 26279) + " off");
        }
        run.is("sum 0 0 26280", 0);
        for (int hour = 0; hour < 20; hour++) {
            int told = hour < 19 ? 10 * hour : 26279;
            run.is("presence 0 " + told + " on", 20).hour(0, told, 100);
        }
        run.is("sum 0 0 26280", 2628000).refuses("presence 0 1 off", Due.STATE);
    }

    private static void measuredBeforeGoes() {
        Run.lit("9, 'From an hour on a lamp has so many lux; likewise': what was told before goes")
            .is("meter 0 10 7", 1).is("meter 0 10 8", 1).hour(0, 9, 100).hour(0, 10, 8).hour(0, 26279, 8)
            .is("meter 0 0 5000", 2).is("meter 0 0 0", 2).hour(0, 0, 0).hour(0, 9, 0).hour(0, 10, 8)
            .is("meter 0 26279 3", 3).is("meter 0 26279 4", 3).hour(0, 26278, 8).hour(0, 26279, 4);
    }

    private static void hoursThatMeasure() {
        Run.lit("9, 'likewise': how many hours tell this of it").with("lamp 1")
            .is("meter 0 10 100", 1).is("meter 0 11 100", 2).is("meter 0 9 100", 3).is("meter 0 10 5", 3)
            .is("meter 1 10 7", 1).is("presence 0 10 off", 1).is("meter 0 26279 1", 4).is("meter 0 0 1", 5)
            .is("meter 1 10 8", 1).is("meter 1 0 1", 2);
    }

    private static void meterOfNoLampOrHour() {
        Run.withSomeOfAll("9, 'likewise': IndexOutOfBoundsException")
            .refusesEach("meter % 5 7", Due.INDEX, MIN, -1, 2, MAX)
            .refusesEach("meter 0 % 7", Due.INDEX, MIN, -1, 26280, MAX)
            .is("meter 0 0 7", 2).is("meter 1 26279 7", 2);
    }

    private static void twentyMeasures() {
        Run run = Run.lit("9, 'likewise': there are 20, and this is none of them").with("lamp 1");
        for (int hour = 1; hour <= 20; hour++) {
            run.is("meter 0 " + 10 * hour + " " + hour, hour);
        }
        run.refusesEach("meter 0 % 7", Due.STATE, 0, 9, 11, 199, 201, 26279).is("sum 0 0 200", 1000 + 10 * 190);
        for (int hour = 1; hour <= 20; hour++) {
            run.is("meter 0 " + 10 * hour + " 50", 20).hour(0, 10 * hour, 50);
        }
        run.is("sum 0 0 26280", 1000 + 50 * 26270).is("meter 1 1 5", 1).is("presence 0 1 on", 1)
            .refuses("meter 0 1 5", Due.STATE);
    }

    private static void twentyOfEach() {
        Run run = Run.lit("8 and 9, 'there are 20': of each of both, in forty hours");
        for (int hour = 0; hour < 20; hour++) {
            run.is("presence 0 " + (20 * hour + 1) + (hour % 2 == 0 ? " off" : " on"), hour + 1)
                .is("meter 0 " + (20 * hour + 11) + " " + (hour + 1), hour + 1);
        }
        run.refuses("presence 0 0 off", Due.STATE).refuses("meter 0 0 7", Due.STATE).hour(0, 0, 100);
        for (int hour = 0; hour < 20; hour++) {
            int start = 20 * hour + 1;
            boolean on = hour % 2 != 0;
            run.hour(0, start, on ? hour : 0).hour(0, start + 9, on ? hour : 0)
                .hour(0, start + 10, on ? hour + 1 : 0).hour(0, start + 19, on ? hour + 1 : 0);
        }
        run.hour(0, 26279, 20).is("sum 0 0 381", 100 + 10 * (18 * 19 / 2))
            .is("sum 0 381 26280", 10 * 19 + 20 * (26280 - 391));
    }

    private static void meterLux() {
        Run.withSomeOfAll("9, 'lux is not 0 .. 5000'")
            .refusesEach("meter 0 15 %", Due.ARGUMENT, MIN, -1, 5001, MAX)
            .refusesEach("meter 0 25 %", Due.ARGUMENT, MIN, -1, 5001, MAX)
            .is("meter 0 25 0", 2).is("meter 0 26 5000", 3).is("meter 0 15 5000", 3).is("meter 0 15 0", 3);
        Run.lit("9, 'lux is not 0 .. 5000': the bounds themselves")
            .with("meter 0 5 5000", "meter 0 6 0").hour(0, 4, 100).hour(0, 5, 5000).hour(0, 6, 0);
    }

    private static void meterLuxBehindTheOthers() {
        Run run = Run.lit("9, 'IllegalArgumentException, behind the others'")
            .refuses("meter 1 0 -1", Due.INDEX).refuses("meter 0 26280 5001", Due.INDEX);
        for (int hour = 0; hour < 20; hour++) {
            run.with("meter 0 " + hour + " 9");
        }
        run.refuses("meter 0 20 5001", Due.STATE).refuses("meter 0 20 -1", Due.STATE)
            .refuses("meter 0 19 5001", Due.ARGUMENT).refuses("meter 0 0 -1", Due.ARGUMENT)
            .refuses("meter 0 -1 -1", Due.INDEX).refuses("meter -1 20 -1", Due.INDEX);
    }

    private static void howManyFlashes() {
        new Run("10, 'A flash on an object: how many there are'").with("object 0", "object 1")
            .is("flash 0 7 3600", 1).is("flash 1 7 3600", 2).is("flash 0 7 3600", 3).is("flash 0 7 0", 4)
            .is("count 2", 4).hour(0, 7, 2).hour(1, 7, 1);
    }

    private static void flashObjectOrHour() {
        Run.withSomeOfAll("10, 'IndexOutOfBoundsException: object or hour'")
            .refusesEach("flash % 7 3600", Due.INDEX, MIN, -1, 3, MAX)
            .refusesEach("flash 0 % 3600", Due.INDEX, MIN, -1, 26280, MAX)
            .is("flash 0 0 3600", 4).is("flash 2 26279 3600", 5);
    }

    private static void fortyFlashes() {
        Run run = new Run("10, 'there are 40'").with("object 0", "object 1");
        for (int flash = 1; flash <= 40; flash++) {
            run.is("flash " + flash % 2 + " 7 3600", flash);
        }
        run.refuses("flash 0 7 3600", Due.STATE).refuses("flash 1 8 0", Due.STATE)
            .hour(0, 7, 20).hour(1, 7, 20).is("count 2", 40);
    }

    private static void flashRange() {
        Run.withSomeOfAll("10, 'luxSeconds is not 0 .. 1000000000'")
            .refusesEach("flash 0 7 %", Due.ARGUMENT, MIN, -1, 1000000001, MAX)
            .is("flash 0 8000 0", 4).hour(0, 8000, 0).is("rest", 0)
            .is("flash 0 8000 1000000000", 5).hour(0, 8000, 277777).is("rest", 2800000)
            .is("flash 0 8001 1", 6).hour(0, 8001, 0).is("rest", 1000);
    }

    private static void howManyPages() {
        Run run = new Run("17, 'a page behind the others, how many there are'");
        for (int page = 1; page <= 12; page++) {
            run.is("page " + page, page).is("rotate " + page, 0).is("turned 0", page - 1).is("count 3", page);
        }
    }

    private static void twelvePages() {
        Run run = new Run("17, 'there are twelve'");
        for (int page = 1; page <= 12; page++) {
            run.is("page 5", page);
        }
        run.refusesEach("page %", Due.STATE, 0, 5, 30000).is("count 3", 12).is("rotate 60", 11).is("rotate 61", -1);
    }

    private static void pageHours() {
        Run.withSomeOfAll("17, 'hours is not 0 .. 30000'")
            .refusesEach("page %", Due.ARGUMENT, MIN, -1, 30001, MAX)
            .is("rotate 15", -1).is("page 0", 4).is("rotate 15", -1)
            .is("page 30000", 5).is("rotate 30000", 0).is("turned 0", 4);
    }
}
