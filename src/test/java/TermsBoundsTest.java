/** The document's part 'Terms': each sentence that names a bound has a test of its own. */
public final class TermsBoundsTest {
    private static final int MIN = Run.MIN;
    private static final int MAX = Run.MAX;
    private static final String[] WITH_OBJECT = {"shines 0 % 5", "shown % 0 1", "flash % 0 1", "sum % 0 1",
        "left % 0", "plan % 0 1"};
    private static final String[] WITH_LAMP = {"shines % 0 5", "presence % 0 off", "meter % 0 5"};

    public static void main(String[] args) {
        hours();
        years();
        hoursOfYears();
        timeOfDay();
        objects();
        noObjectYet();
        classes();
        lamps();
        noLampYet();
        luxFromHour0();
        measuredOtherwise();
        onTillToldOff();
        shareAtFirst();
        shareOfThousandths();
        daylightAtFirst();
        daylightOnAllObjects();
        hoursOfRows();
        sixteenRows();
        hourOfTwoRows();
        partsOfLampsAndDaylight();
        mostPartsOfAnHour();
        partsOfFlashes();
        flashesWhetherShownOrNot();
        withoutBoundAtFirst();
        allowances();
        indexBeforeState();
        indexBeforeArgument();
        stateBeforeArgument();
        fullButAnswered();
        atMost512Calls();
        Due.end();
    }

    private static void hours() {
        String sentence = "Terms, 'HOURS are 0 .. 26279'";
        String[] calls = {"shown 0 % 26280", "presence 0 % off", "meter 0 % 1", "flash 0 % 1", "plan 0 % 26280"};
        long[] dueFirst = {1, 1, 1, 1, 26280};
        long[] dueLast = {2, 2, 2, 2, 1};
        for (int i = 0; i < calls.length; i++) {
            new Run(sentence).with("object 0", "lamp 100")
                .is(calls[i].replace("%", "0"), dueFirst[i])
                .is(calls[i].replace("%", "26279"), dueLast[i]);
            Run.withSomeOfAll(sentence).refusesEach(calls[i], Due.INDEX, MIN, -1, 26280, MAX);
        }
    }

    private static void years() {
        String sentence = "Terms, 'three YEARS 0 .. 2'";
        new Run(sentence).with("object 0", "allowed 0 7").is("left 0 0", 7).is("left 0 1", 7).is("left 0 2", 7);
        Run.withSomeOfAll(sentence).refusesEach("left 0 %", Due.INDEX, MIN, -1, 3, MAX);
    }

    private static void hoursOfYears() {
        int[][] flashes = {{8759, 1}, {8760, 2}, {17519, 1}, {17520, 3}, {26279, 1}, {0, 1}};
        int[][] due = {{9, 10, 10}, {9, 8, 10}, {9, 7, 10}, {9, 7, 7}, {9, 7, 6}, {8, 7, 6}};
        Run run = new Run("Terms, 'of 8760 hours'").with("object 0", "allowed 0 10");
        for (int i = 0; i < flashes.length; i++) {
            run.is("flash 0 " + flashes[i][0] + " " + 3600 * flashes[i][1], i + 1);
            for (int year = 0; year < 3; year++) {
                run.is("left 0 " + year, due[i][year]);
            }
        }
    }

    private static void timeOfDay() {
        Run run = new Run("Terms, 'an hour's time of DAY is its rest by 24'")
            .with("object 0", "shown 0 0 26280", "daylight 0 1", "daylight 1 2", "daylight 23 24");
        for (int hour : new int[] {0, 24, 8736, 8760, 17520, 26256}) {
            run.hour(0, hour, 1).hour(0, hour + 1, 2).hour(0, hour + 2, 0);
        }
        for (int hour : new int[] {23, 47, 8759, 17519, 26279}) {
            run.hour(0, hour, 24).hour(0, hour - 1, 0);
        }
        run.is("sum 0 23 25", 25).is("sum 0 8759 8762", 27).is("sum 0 0 26280", 27 * 1095);
    }

    private static void objects() {
        long[] due = {0, 1, 1, 0, MIN, 1};
        for (int i = 0; i < WITH_OBJECT.length; i++) {
            numbers("Terms, 'OBJECTS are 0 .. 11'", "object 0", 12, WITH_OBJECT[i], due[i]);
        }
    }

    /** One there, then so many as there may be: the call is answered for the last of them and none behind it. */
    private static void numbers(String sentence, String another, int most, String call, long due) {
        new Run(sentence).with("object 0", "lamp 100").is(call.replace("%", "0"), due);
        Run run = new Run(sentence).with("object 0", "lamp 100").refusesEach(call, Due.INDEX, MIN, -1, 1, MAX);
        for (int i = 1; i < most; i++) {
            run.with(another);
        }
        run.refusesEach(call, Due.INDEX, MIN, -1, most, MAX).is(call.replace("%", String.valueOf(most - 1)), due);
    }

    private static void noObjectYet() {
        Run run = new Run("Terms, 'there is no such object': none yet").with("lamp 100");
        for (String call : WITH_OBJECT) {
            run.refusesEach(call, Due.INDEX, -1, 0, 1);
        }
    }

    private static void classes() {
        String sentence = "Terms, 'each of a CLASS 0 .. 5'";
        new Run(sentence).is("object 0", 0).is("object 5", 1).is("allowed 0 3", -1).is("allowed 5 4", -1)
            .is("left 0 0", 3).is("left 1 0", 4);
        Run.withSomeOfAll(sentence)
            .refusesEach("object %", Due.INDEX, MIN, -1, 6, MAX)
            .refusesEach("allowed % 5", Due.INDEX, MIN, -1, 6, MAX);
    }

    private static void lamps() {
        long[] due = {0, 1, 1};
        for (int i = 0; i < WITH_LAMP.length; i++) {
            numbers("Terms, 'LAMPS are 0 .. 7'", "lamp 100", 8, WITH_LAMP[i], due[i]);
        }
    }

    private static void noLampYet() {
        Run run = new Run("Terms, 'there is no such lamp': none yet").with("object 0");
        for (String call : WITH_LAMP) {
            run.refusesEach(call, Due.INDEX, -1, 0, 1);
        }
    }

    private static void luxFromHour0() {
        String sentence = "Terms, 'each of so many LUX 0 .. 5000, from hour 0 on'";
        for (int lux : new int[] {0, 1, 4999, 5000}) {
            new Run(sentence).with("object 0", "shown 0 0 26280", "lamp " + lux, "shines 0 0 1000")
                .hour(0, 0, lux).hour(0, 1, lux).hour(0, 26279, lux).is("sum 0 0 26280", lux * 26280);
        }
    }

    private static void measuredOtherwise() {
        Run.lit("Terms, 'till it is measured otherwise from some hour on'")
            .is("meter 0 10 7", 1).hour(0, 9, 100).hour(0, 10, 7).hour(0, 26279, 7)
            .is("meter 0 0 3", 2).hour(0, 0, 3).hour(0, 9, 3).hour(0, 10, 7)
            .is("meter 0 26279 5000", 3).hour(0, 26278, 7).hour(0, 26279, 5000)
            .is("meter 0 9 0", 4).hour(0, 8, 3).hour(0, 9, 0).hour(0, 10, 7)
            .is("sum 0 0 26280", 3 * 9 + 7 * 26269 + 5000)
            .is("meter 0 1 40", 5).hour(0, 0, 3).hour(0, 1, 40).hour(0, 8, 40).hour(0, 9, 0);
    }

    private static void onTillToldOff() {
        Run.lit("Terms, 'each is ON, till it is told off from some hour on, and so forth'")
            .hour(0, 0, 100).hour(0, 26279, 100)
            .is("presence 0 10 off", 1).hour(0, 9, 100).hour(0, 10, 0).hour(0, 26279, 0)
            .is("presence 0 20 on", 2).hour(0, 19, 0).hour(0, 20, 100).hour(0, 26279, 100)
            .is("presence 0 0 off", 3).hour(0, 0, 0).hour(0, 9, 0).hour(0, 20, 100)
            .is("presence 0 26279 off", 4).hour(0, 26278, 100).hour(0, 26279, 0)
            .is("presence 0 21 off", 5).hour(0, 20, 100).hour(0, 21, 0)
            .is("sum 0 0 26280", 100)
            .is("presence 0 1 on", 6).hour(0, 0, 0).hour(0, 1, 100).hour(0, 9, 100).hour(0, 10, 0);
    }

    private static void shareAtFirst() {
        new Run("Terms, 'a SHARE ... (0 at first)'")
            .with("object 0", "shown 0 0 26280", "lamp 5000", "object 0", "shown 1 0 26280", "lamp 5000")
            .is("sum 0 0 26280", 0).is("rest", 0).is("sum 1 0 26280", 0).is("rest", 0)
            .is("shines 0 0 1", 0).is("shines 0 1 1", 0).is("shines 1 0 1", 0).is("shines 1 1 1", 0);
    }

    private static void shareOfThousandths() {
        String sentence = "Terms, 'a SHARE of 0 .. 1000 thousandths falls on an object'";
        Run.lit(sentence)
            .is("shines 0 0 0", 1000).hour(0, 0, 0).is("rest", 0)
            .is("shines 0 0 1", 0).hour(0, 0, 0).is("rest", 360000)
            .is("shines 0 0 999", 1).hour(0, 0, 99).is("rest", 3240000)
            .is("shines 0 0 1000", 999).hour(0, 0, 100).is("rest", 0);
        Run.withSomeOfAll(sentence).refusesEach("shines 0 0 %", Due.ARGUMENT, MIN, -1, 1001, MAX);
    }

    private static void daylightAtFirst() {
        Run run = new Run("Terms, 'for each time of day so many lux (0 at first)'")
            .with("object 0", "shown 0 0 26280").is("sum 0 0 26280", 0).is("rest", 0);
        for (int time = 0; time < 24; time++) {
            run.is("daylight " + time + " 0", 0);
        }
    }

    private static void daylightOnAllObjects() {
        Run run = new Run("Terms, 'DAYLIGHT: ... lux 0 .. 5000 ..., on all objects'");
        for (int object = 0; object < 11; object++) {
            run.with("object " + object % 6, "shown " + object + " 0 48");
        }
        run.with("daylight 0 5000", "daylight 23 1", "object 0", "shown 11 0 48");
        for (int object = 0; object < 12; object++) {
            run.is("sum " + object + " 0 26280", 2 * 5001).hour(object, 0, 5000).hour(object, 23, 1);
        }
        run.is("daylight 0 0", 5000).hour(0, 0, 0).hour(11, 24, 0).hour(11, 23, 1);
    }

    private static void hoursOfRows() {
        new Run("Terms, 'the hours of its ROWS (from .. to - 1 each'")
            .with("object 0", "lamp 100", "shines 0 0 1000").is("sum 0 0 26280", 0)
            .is("shown 0 10 12", 1).hour(0, 9, 0).hour(0, 10, 100).hour(0, 11, 100).hour(0, 12, 0)
            .is("shown 0 0 1", 2).hour(0, 0, 100).hour(0, 1, 0)
            .is("shown 0 26279 26280", 3).hour(0, 26278, 0).hour(0, 26279, 100)
            .is("sum 0 0 26280", 400)
            .is("shown 0 0 26280", 4).hour(0, 1, 100).hour(0, 12, 100).is("sum 0 0 26280", 2628000);
    }

    private static void sixteenRows() {
        Run run = new Run("Terms, 'at most 16 rows'").with("object 0", "lamp 100", "shines 0 0 1000", "object 1");
        for (int row = 0; row < 16; row++) {
            run.is("shown 0 " + 10 * (15 - row) + " " + (10 * (15 - row) + 1), row + 1);
        }
        run.is("sum 0 0 26280", 1600).hour(0, 0, 100).hour(0, 150, 100)
            .refuses("shown 0 200 201", Due.STATE).refuses("shown 0 0 1", Due.STATE)
            .is("sum 0 0 26280", 1600).is("shown 1 0 1", 1);
    }

    private static void hourOfTwoRows() {
        String sentence = "Terms, 'an hour of two rows is shown once'";
        String[][] rows = {{"10 20", "10 20"}, {"10 19", "19 20"}, {"10 15", "14 20"}, {"10 20", "12 13"},
            {"10 20", "10 11"}, {"10 20", "19 20"}};
        for (String[] pair : rows) {
            for (int first = 0; first < 2; first++) {
                new Run(sentence).with("object 0", "lamp 100", "shines 0 0 1000")
                    .is("shown 0 " + pair[first], 1).is("shown 0 " + pair[1 - first], 2)
                    .is("sum 0 0 26280", 1000).is("sum 0 14 15", 100).is("sum 0 18 30", 200);
            }
        }
        Run run = new Run(sentence).with("object 0", "lamp 100", "shines 0 0 1000");
        for (int row = 0; row < 16; row++) {
            run.with("shown 0 " + (100 - row) + " " + (101 + row));
        }
        run.is("sum 0 0 26280", 3100).hour(0, 100, 100).hour(0, 85, 100).hour(0, 115, 100).hour(0, 116, 0);
    }

    private static void partsOfLampsAndDaylight() {
        new Run("Terms, 'in PARTS of which 3600000 are one lux hour: 3600000 times the daylight, and 3600 times ...'")
            .with("object 0", "shown 0 0 1000", "lamp 1", "shines 0 0 1", "lamp 5000")
            .hour(0, 0, 0).is("rest", 3600)
            .is("sum 0 0 999", 0).is("rest", 3596400).is("sum 0 0 1000", 1).is("rest", 0)
            .is("sum 0 0 26280", 1).is("rest", 0)
            .with("daylight 3 1").hour(0, 3, 1).is("rest", 3600).hour(0, 4, 0).is("rest", 3600)
            .with("presence 0 5 off").hour(0, 4, 0).is("rest", 3600).hour(0, 5, 0).is("rest", 0)
            .hour(0, 27, 1).is("rest", 0);
    }

    private static void mostPartsOfAnHour() {
        Run run = new Run("Terms, 'each lamp that is on': the most of all")
            .with("object 0", "shown 0 0 26280", "daylight 0 5000");
        for (int lamp = 0; lamp < 8; lamp++) {
            run.with("lamp 5000", "shines " + lamp + " 0 1000").hour(0, 0, 5000 * (lamp + 2)).is("rest", 0);
        }
        run.with("presence 7 0 off").hour(0, 0, 40000).with("presence 0 0 off").hour(0, 0, 35000);
    }

    private static void partsOfFlashes() {
        new Run("Terms, 'A FLASH of so many lux seconds (1000 parts each)'").with("object 0", "flash 0 7 1")
            .is("sum 0 0 26280", 0).is("rest", 1000)
            .with("flash 0 7 3598").is("sum 0 0 26280", 0).is("rest", 3599000)
            .with("flash 0 7 1").is("sum 0 0 26280", 1).is("rest", 0)
            .with("flash 0 7 0").is("sum 0 0 26280", 1).is("rest", 0)
            .with("flash 0 7 1000000000").is("sum 0 0 26280", 277778).is("rest", 2800000);
    }

    private static void flashesWhetherShownOrNot() {
        new Run("Terms, 'counts in its hour, whether shown or not'").with("object 0", "object 0", "flash 0 10 3600")
            .hour(0, 9, 0).hour(0, 10, 1).hour(0, 11, 0).hour(1, 10, 0)
            .with("shown 0 10 11").hour(0, 10, 1)
            .with("flash 0 10 3600").hour(0, 10, 2)
            .with("flash 0 0 3600", "flash 0 26279 3600").hour(0, 0, 1).hour(0, 26279, 1).is("sum 0 0 26280", 4);
    }

    private static void withoutBoundAtFirst() {
        Run run = new Run("Terms, 'ALLOWED ... (at first without bound)'");
        for (int c = 0; c < 6; c++) {
            run.with("object " + c, "shown " + c + " 0 26280", "flash " + c + " 0 1000000000")
                .is("left " + c + " 0", MIN).is("plan " + c + " 0 26280", 26280);
        }
        run.is("breaches", 0);
        for (int c = 0; c < 6; c++) {
            run.is("allowed " + c + " 0", -1).is("breaches", c + 1);
        }
    }

    private static void allowances() {
        String sentence = "Terms, 'so many lux hours 0 .. 1000000000 a year'";
        new Run(sentence).with("object 0", "flash 0 0 3600", "flash 0 8760 7200")
            .is("allowed 0 0", -1).is("left 0 0", -1).is("left 0 1", -2).is("left 0 2", 0).is("breaches", 2)
            .is("allowed 0 1", 0).is("left 0 0", 0).is("left 0 1", -1).is("left 0 2", 1).is("breaches", 1)
            .is("allowed 0 1000000000", 1).is("left 0 0", 999999999).is("left 0 2", 1000000000).is("breaches", 0);
        Run.withSomeOfAll(sentence).refusesEach("allowed 0 %", Due.ARGUMENT, MIN, -2, 1000000001, MAX);
    }

    /** All places are taken: objects, lamps, rows of object 0, hours of lamp 0, flashes, pages. */
    private static Run full(String sentence) {
        Run run = new Run(sentence);
        for (int object = 0; object < 12; object++) {
            run.with("object " + object % 6, "page " + object);
        }
        for (int lamp = 0; lamp < 8; lamp++) {
            run.with("lamp 100", "shines " + lamp + " 0 100");
        }
        for (int row = 0; row < 16; row++) {
            run.with("shown 0 " + 100 * row + " " + (100 * row + 60));
        }
        for (int hour = 0; hour < 20; hour++) {
            run.with("presence 0 " + 70 * hour + (hour % 3 == 0 ? " off" : " on"), "meter 0 " + 50 * hour + " 30");
        }
        for (int flash = 0; flash < 40; flash++) {
            run.with("flash " + flash % 12 + " 5 " + flash);
        }
        return run.with("allowed 0 50", "rotate 40", "breaches", "sum 0 0 26280");
    }

    private static void indexBeforeState() {
        full("Terms, 'IndexOutOfBoundsException ... IllegalStateException'")
            .refuses("object 6", Due.INDEX).refuses("object -1", Due.INDEX).refuses("object 0", Due.STATE)
            .refuses("shown 12 0 1", Due.INDEX).refuses("shown 0 -1 5", Due.INDEX)
            .refuses("shown 0 26280 26281", Due.INDEX).refuses("shown 0 0 1", Due.STATE)
            .refuses("presence 8 1 on", Due.INDEX).refuses("presence 0 -1 on", Due.INDEX)
            .refuses("presence 0 26280 on", Due.INDEX).refuses("presence 0 1 on", Due.STATE)
            .refuses("meter 8 1 5", Due.INDEX).refuses("meter 0 -1 5", Due.INDEX)
            .refuses("meter 0 26280 5", Due.INDEX).refuses("meter 0 1 5", Due.STATE)
            .refuses("flash 12 0 5", Due.INDEX).refuses("flash 0 -1 5", Due.INDEX)
            .refuses("flash 0 26280 5", Due.INDEX).refuses("flash 0 0 5", Due.STATE);
    }

    private static void indexBeforeArgument() {
        Run.withSomeOfAll("Terms, 'IndexOutOfBoundsException ... then IllegalArgumentException'")
            .refuses("allowed 6 -2", Due.INDEX).refuses("allowed -1 1000000001", Due.INDEX)
            .refuses("shines 2 0 -1", Due.INDEX).refuses("shines 0 3 1001", Due.INDEX)
            .refuses("daylight 24 -1", Due.INDEX).refuses("daylight -1 5001", Due.INDEX)
            .refuses("shown 3 5 5", Due.INDEX).refuses("shown 0 -1 -1", Due.INDEX)
            .refuses("shown 0 26280 26280", Due.INDEX).refuses("shown -1 0 26281", Due.INDEX)
            .refuses("meter 2 0 -1", Due.INDEX).refuses("meter 0 26280 5001", Due.INDEX)
            .refuses("flash 3 0 -1", Due.INDEX).refuses("flash 0 -1 1000000001", Due.INDEX)
            .refuses("sum 3 -1 0", Due.INDEX).refuses("sum -1 0 26281", Due.INDEX)
            .refuses("plan 3 5 5", Due.INDEX).refuses("plan 0 -1 -1", Due.INDEX)
            .refuses("plan 0 26280 26280", Due.INDEX).refuses("plan -1 0 26281", Due.INDEX);
    }

    private static void stateBeforeArgument() {
        full("Terms, 'IllegalStateException, then IllegalArgumentException'")
            .refuses("lamp -1", Due.STATE).refuses("lamp 5001", Due.STATE)
            .refuses("shown 0 5 5", Due.STATE).refuses("shown 0 5 26281", Due.STATE)
            .refuses("shown 1 5 5", Due.ARGUMENT).refuses("shown 1 5 26281", Due.ARGUMENT)
            .refuses("meter 0 1 -1", Due.STATE).refuses("meter 0 1 5001", Due.STATE)
            .refuses("meter 0 50 -1", Due.ARGUMENT).refuses("meter 1 1 5001", Due.ARGUMENT)
            .refuses("flash 0 0 -1", Due.STATE).refuses("flash 0 0 1000000001", Due.STATE)
            .refuses("page -1", Due.STATE).refuses("page 30001", Due.STATE);
    }

    private static void fullButAnswered() {
        full("Terms, 'as told': what is full still answers what needs no new place")
            .is("shown 1 0 1", 1).is("presence 0 70 off", 20).is("presence 1 1 off", 1)
            .is("meter 0 50 5000", 20).is("meter 1 1 5", 1).is("shines 7 11 1", 0).is("allowed 5 0", -1)
            .is("count 0", 12).is("count 1", 8).is("count 2", 40).is("count 3", 12);
    }

    private static void atMost512Calls() {
        Run run = Run.lit("'An object is used for at most 512 calls'");
        for (int call = 5; call <= 510; call++) {
            run.is("presence 0 " + call % 20 * 100 + (call % 2 == 0 ? " on" : " off"), Math.min(20, call - 4));
        }
        run.is("presence 0 0 on", 20).is("sum 0 0 200", 100 * 100);
    }
}
