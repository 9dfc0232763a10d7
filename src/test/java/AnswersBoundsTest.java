/** Promises 11 to 16 and 18 to 20, which answer questions: each sentence that names a bound has a test of its own. */
public final class AnswersBoundsTest {
    private static final int MIN = Run.MIN;
    private static final int MAX = Run.MAX;

    public static void main(String[] args) {
        sumToAnHour();
        sumOfNoHour();
        sumInWholeLuxHours();
        sumOfAll();
        sumOfNoObject();
        sumRange();
        restAtFirst();
        restOfTheLatest();
        mostRest();
        leftRoundedDown();
        leftBelowZero();
        leftOfEachYear();
        leftWithoutBound();
        leftOfNoObjectOrYear();
        planDoesNotPass();
        planOfWholeYears();
        planWhereShownAlready();
        planOverYears();
        planUpToAnHour();
        planWherePassedAlready();
        planWhereLaterYearsArePassed();
        planWithoutBound();
        planChangesNothing();
        planOfNoObjectOrHour();
        planEnd();
        breachesOfMoreThanAllowed();
        noBreaches();
        breachesOfAllObjectsAndYears();
        hourBehindWhich();
        firstAndLastHoursOfYears();
        hourOfAFlash();
        orderOfHours();
        thenObjects();
        breachesAnew();
        breachOfNoNumber();
        breachOfNeither();
        fewestChanges();
        rotateHours();
        eachPageAtOneTime();
        cannotBe();
        allPages();
        lowestPages();
        lowestWhereTheyDiffer();
        turnedByNumber();
        turnedOfTheLatest();
        turnedOfNoPage();
        counts();
        countOfTheLatest();
        countOfNone();
        Due.end();
    }

    private static Run book(String sentence, int... hours) {
        Run run = new Run(sentence);
        for (int pageHours : hours) {
            run.with("page " + pageHours);
        }
        return run;
    }

    private static void sumToAnHour() {
        new Run("11, 'in the hours from one on, to another one (which doesn't count)'")
            .with("object 0", "shown 0 0 26280", "daylight 5 1", "daylight 6 2", "daylight 7 4", "daylight 23 8")
            .is("sum 0 5 6", 1).is("sum 0 5 7", 3).is("sum 0 6 8", 6).is("sum 0 5 8", 7).is("sum 0 4 5", 0)
            .is("sum 0 8 23", 0).is("sum 0 0 24", 15).is("sum 0 26279 26280", 8).is("sum 0 26256 26279", 7)
            .with("flash 0 105 3600").is("sum 0 104 105", 0).is("sum 0 105 106", 1).is("sum 0 106 107", 0);
    }

    private static void sumOfNoHour() {
        Run.lit("11, '0 <= from <= to': no hour at all").with("flash 0 0 3600", "flash 0 5 3600", "flash 0 26279 3600")
            .is("sum 0 0 0", 0).is("sum 0 5 5", 0).is("sum 0 26279 26279", 0).is("sum 0 26280 26280", 0)
            .is("rest", 0);
    }

    private static void sumInWholeLuxHours() {
        Run.lit("11, 'whole lux hours'").with("meter 0 0 1", "shines 0 0 1")
            .is("sum 0 0 999", 0).is("sum 0 0 1000", 1).is("sum 0 0 1001", 1).is("sum 0 0 1999", 1)
            .is("sum 0 0 2000", 2).is("sum 0 0 26280", 26).is("rest", 280 * 3600);
    }

    private static void sumOfAll() {
        Run run = new Run("11: the most that there can be").with("object 0", "shown 0 0 26280");
        for (int lamp = 0; lamp < 8; lamp++) {
            run.with("lamp 5000", "shines " + lamp + " 0 1000");
        }
        for (int time = 0; time < 24; time++) {
            run.with("daylight " + time + " 5000");
        }
        for (int flash = 0; flash < 40; flash++) {
            run.with("flash 0 0 1000000000");
        }
        run.is("sum 0 0 26280", 45000L * 26280 + 11111111).is("rest", 400000)
            .is("sum 0 0 1", 45000 + 11111111).is("sum 0 1 26280", 45000L * 26279)
            .is("allowed 0 0", -1).is("left 0 0", -(45000L * 8760 + 11111112)).is("left 0 2", -45000L * 8760)
            .is("breaches", 3).is("plan 0 0 26280", 0);
    }

    private static void sumOfNoObject() {
        Run.withSomeOfAll("11, 'IndexOutOfBoundsException: object'")
            .refusesEach("sum % 0 26280", Due.INDEX, MIN, -1, 3, MAX).is("sum 2 0 0", 0);
    }

    private static void sumRange() {
        Run.withSomeOfAll("11, 'not 0 <= from <= to <= 26280'")
            .refusesEach("sum 0 % 100", Due.ARGUMENT, MIN, -1, 101, 26280, 26281, MAX)
            .refusesEach("sum 0 20 %", Due.ARGUMENT, MIN, -1, 0, 19, 26281, MAX)
            .refusesEach("sum 0 % -1", Due.ARGUMENT, MIN, -1, 0)
            .refusesEach("sum 0 % 26281", Due.ARGUMENT, -1, 0, 26280, 26281)
            .refusesEach("sum 0 26280 %", Due.ARGUMENT, 0, 26279, 26281)
            .is("sum 0 20 20", 0).is("sum 0 0 0", 0).is("sum 0 26280 26280", 0).is("sum 0 100 100", 0);
    }

    private static void restAtFirst() {
        new Run("12, '(0 at first)'").is("rest", 0).with("object 0", "flash 0 0 1", "allowed 0 0").is("rest", 0)
            .is("left 0 0", -1).is("breaches", 1).is("plan 0 0 1", 0).is("rest", 0)
            .is("sum 0 0 1", 0).is("rest", 1000);
    }

    private static void restOfTheLatest() {
        new Run("12, 'The parts over, of the latest sum()'")
            .with("object 0", "object 0", "flash 0 5 3601", "flash 1 5 2")
            .is("sum 0 0 26280", 1).is("rest", 1000).is("rest", 1000)
            .refuses("sum 0 1 0", Due.ARGUMENT).refuses("sum 2 0 0", Due.INDEX).is("rest", 1000)
            .with("flash 0 5 7", "left 1 0", "plan 1 0 5", "breaches").is("rest", 1000)
            .is("sum 1 5 6", 0).is("rest", 2000).is("sum 1 6 7", 0).is("rest", 0)
            .is("sum 0 5 6", 1).is("rest", 8000).is("sum 0 5 5", 0).is("rest", 0);
    }

    private static void mostRest() {
        Run.lit("12: all but the last parts of a lux hour").with("meter 0 0 1", "shines 0 0 998", "flash 0 0 7")
            .hour(0, 0, 0).is("rest", 3599800)
            .with("shines 0 0 995", "flash 0 0 11").hour(0, 0, 1).is("rest", 0);
    }

    private static void leftRoundedDown() {
        new Run("13, 'whole lux hours, rounded down'").with("object 0", "allowed 0 2").is("left 0 0", 2)
            .with("flash 0 0 1").is("left 0 0", 1)
            .with("flash 0 0 3599").is("left 0 0", 1)
            .with("flash 0 0 1").is("left 0 0", 0)
            .with("flash 0 0 3598").is("left 0 0", 0)
            .with("flash 0 0 1").is("left 0 0", 0);
    }

    private static void leftBelowZero() {
        new Run("13, '(below 0: as much too many)'").with("object 0", "allowed 0 0").is("left 0 0", 0)
            .with("flash 0 0 1").is("left 0 0", -1)
            .with("flash 0 0 3599").is("left 0 0", -1)
            .with("flash 0 0 1").is("left 0 0", -2)
            .with("flash 0 0 3599").is("left 0 0", -2);
    }

    private static void leftOfEachYear() {
        Run.unseen("13, 'What is left of what an object is allowed in a year'").with("allowed 0 1000")
            .with("shown 0 8759 8760").is("left 0 0", 900).is("left 0 1", 1000).is("left 0 2", 1000)
            .with("shown 0 8760 8762").is("left 0 0", 900).is("left 0 1", 800).is("left 0 2", 1000)
            .with("shown 0 17519 17523").is("left 0 0", 900).is("left 0 1", 700).is("left 0 2", 700)
            .with("shown 0 26279 26280", "shown 0 0 1").is("left 0 0", 800).is("left 0 1", 700).is("left 0 2", 600);
    }

    private static void leftWithoutBound() {
        new Run("13, '-2147483648 without bound'").with("object 0", "object 5", "allowed 5 0")
            .is("left 0 0", MIN).is("left 0 1", MIN).is("left 0 2", MIN).is("left 1 0", 0)
            .with("flash 0 0 1000000000").is("left 0 0", MIN)
            .with("allowed 0 0", "allowed 5 NONE").is("left 0 0", -277778).is("left 0 1", 0).is("left 1 0", MIN);
    }

    private static void leftOfNoObjectOrYear() {
        Run.withSomeOfAll("13, 'IndexOutOfBoundsException'")
            .refusesEach("left % 0", Due.INDEX, MIN, -1, 3, MAX)
            .refusesEach("left 0 %", Due.INDEX, MIN, -1, 3, MAX).is("left 0 2", 2000).is("left 1 0", 900 - 1017);
    }

    private static void planDoesNotPass() {
        int[][] allowedAndDue = {{0, 0}, {99, 0}, {100, 1}, {199, 1}, {999, 9}, {1000, 10}, {1001, 10}, {1099, 10},
            {1100, 11}, {102400, 1024}, {819199, 8191}, {819200, 8192}};
        for (int[] pair : allowedAndDue) {
            Run.unseen("14, 'its parts do not pass what is allowed'").with("allowed 0 " + pair[0])
                .is("plan 0 0 26280", pair[1]).is("plan 0 8760 26280", pair[1]).is("plan 0 17520 26280", pair[1])
                .with("flash 0 8759 1")
                .is("plan 0 0 26280", pair[0] % 100 == 0 ? Math.max(0, pair[1] - 1) : pair[1]);
        }
    }

    private static void planOfWholeYears() {
        Run.unseen("14, 'do not pass what is allowed': as much as a whole year gives")
            .with("allowed 0 876000").is("plan 0 0 8760", 8760).is("plan 0 0 26280", 26280)
            .with("allowed 0 875999").is("plan 0 0 8760", 8759).is("plan 0 0 26280", 8759)
            .is("plan 0 1 26280", 8759 + 8759).is("plan 0 17521 26280", 8759).is("plan 0 17520 26280", 8759);
    }

    private static void planWhereShownAlready() {
        Run.unseen("14, '(in hours in which it is shown already it gets no more)'").with("shown 0 5 8", "allowed 0 300")
            .is("plan 0 5 8760", 3).is("plan 0 4 8760", 0).is("plan 0 6 8760", 2).is("plan 0 7 8", 1)
            .is("plan 0 8 8760", 0)
            .with("allowed 0 400").is("plan 0 4 8760", 4).is("plan 0 5 8760", 4).is("plan 0 8 8760", 1)
            .is("plan 0 0 3", 1).is("plan 0 3 8760", 1)
            .with("shown 0 5 8").is("plan 0 4 8760", 4)
            .with("allowed 0 876000", "shown 0 0 26280").is("plan 0 0 26280", 26280)
            .with("allowed 0 875999").is("plan 0 0 26280", 0);
    }

    private static void planOverYears() {
        Run.unseen("14, 'in each year that these hours are in'").with("allowed 0 1000")
            .is("plan 0 8750 26280", 20).is("plan 0 8749 26280", 10).is("plan 0 8751 26280", 19)
            .is("plan 0 8759 26280", 11).is("plan 0 8760 26280", 10).is("plan 0 17510 26280", 20)
            .is("plan 0 17509 26280", 10).is("plan 0 17520 26280", 10).is("plan 0 26270 26280", 10)
            .is("plan 0 26269 26280", 10).is("plan 0 26271 26280", 9)
            .with("shown 0 17000 17010").is("plan 0 8750 26280", 10).is("plan 0 17519 26280", 0)
            .with("presence 0 17511 off").is("plan 0 17510 26280", 0).is("plan 0 17511 26280", 26280 - 17511);
    }

    private static void planUpToAnHour() {
        Run.unseen("14, 'up to an hour that does not count'").with("allowed 0 1000")
            .is("plan 0 0 1", 1).is("plan 0 0 9", 9).is("plan 0 0 10", 10).is("plan 0 0 11", 10)
            .is("plan 0 8759 8760", 1).is("plan 0 8759 8761", 2).is("plan 0 17519 17521", 2)
            .is("plan 0 26279 26280", 1).is("plan 0 8755 8765", 10);
    }

    private static void planWherePassedAlready() {
        Run.unseen("14, '(0, if they pass it already in the first one's year.)'").with("allowed 0 1000")
            .with("presence 0 0 off", "flash 0 100 3600000").is("plan 0 0 26280", 26280).is("plan 0 8759 8760", 1)
            .with("flash 0 8000 1").is("plan 0 0 1", 0).is("plan 0 0 26280", 0).is("plan 0 8759 8760", 0)
            .is("plan 0 8759 26280", 0).is("plan 0 8760 26280", 17520)
            .with("shown 0 0 50").is("plan 0 0 50", 0)
            .with("allowed 0 1001").is("plan 0 0 26280", 26280);
    }

    private static void planWhereLaterYearsArePassed() {
        Run.unseen("14, 'in each year that these hours are in': a later one that is passed").with("allowed 0 1000")
            .with("presence 0 0 off", "flash 0 17520 3600001")
            .is("plan 0 0 26280", 17520).is("plan 0 0 17520", 17520).is("plan 0 17519 26280", 1)
            .is("plan 0 17520 26280", 0).is("plan 0 26279 26280", 0)
            .with("flash 0 17519 3600001")
            .is("plan 0 0 26280", 8760).is("plan 0 8759 26280", 1).is("plan 0 8760 26280", 0)
            .is("plan 0 0 8760", 8760).is("plan 0 17519 26280", 0);
    }

    private static void planWithoutBound() {
        Run run = Run.lit("14: without bound").is("plan 0 0 26280", 26280);
        for (int flash = 0; flash < 40; flash++) {
            run.with("flash 0 " + flash + " 1000000000");
        }
        run.is("plan 0 0 26280", 26280).is("plan 0 8759 8760", 1).is("plan 0 3 26279", 26276);
    }

    private static void planChangesNothing() {
        Run.unseen("14, 'could be shown': it is not").with("allowed 0 1000", "shown 0 3 5")
            .is("plan 0 0 26280", 10).is("sum 0 0 26280", 200).is("left 0 0", 800).is("plan 0 0 26280", 10)
            .is("shown 0 3 5", 2);
    }

    private static void planOfNoObjectOrHour() {
        Run.withSomeOfAll("14, 'object, or from is no hour'")
            .refusesEach("plan % 0 26280", Due.INDEX, MIN, -1, 3, MAX)
            .refusesEach("plan 0 % 26280", Due.INDEX, MIN, -1, 26280, MAX);
    }

    private static void planEnd() {
        Run.withSomeOfAll("14, 'to is not above from, or above 26280'")
            .refusesEach("plan 0 20 %", Due.ARGUMENT, MIN, -1, 0, 19, 20, 26281, MAX)
            .refusesEach("plan 0 0 %", Due.ARGUMENT, MIN, -1, 0, 26281, MAX)
            .refusesEach("plan 0 26279 %", Due.ARGUMENT, 0, 26279, 26281, MAX);
    }

    private static void breachesOfMoreThanAllowed() {
        Run.lit("15, 'in which it got more than it is allowed'")
            .with("allowed 0 876000").is("breaches", 0)
            .with("flash 0 8760 0").is("breaches", 0)
            .with("flash 0 8760 1").is("breaches", 1)
            .with("allowed 0 876001").is("breaches", 0)
            .with("allowed 0 875999").is("breaches", 3)
            .with("presence 0 26279 off").is("breaches", 2);
    }

    private static void noBreaches() {
        new Run("15, 'How many breaches there are': none").is("breaches", 0).with("object 0").is("breaches", 0)
            .with("allowed 0 0").is("breaches", 0).with("shown 0 0 26280").is("breaches", 0)
            .with("flash 0 0 1").is("breaches", 1).with("allowed 0 NONE").is("breaches", 0);
    }

    private static void breachesOfAllObjectsAndYears() {
        Run run = new Run("15, 'an object and a year': all of them").with("allowed 2 0");
        for (int object = 0; object < 12; object++) {
            run.with("object 2");
            for (int year = 0; year < 3; year++) {
                run.with("flash " + object + " " + (8760 * year + 100 - object) + " 1")
                    .is("breaches", 3 * object + year + 1);
            }
        }
        for (int k = 0; k < 36; k++) {
            run.is("breach " + k + " 0", 8760 * (k / 12) + 89 + k % 12).is("breach " + k + " 1", 11 - k % 12);
        }
        run.refuses("breach 36 0", Due.INDEX).refuses("breach 36 1", Due.INDEX);
    }

    private static void hourBehindWhich() {
        Run run = Run.lit("16, '0 the hour behind which the year's parts were more than allowed, 1 the object'");
        int[][] allowedAndDue = {{0, 0}, {99, 0}, {100, 1}, {999, 9}, {1000, 10}, {1001, 10}, {819199, 8191},
            {819200, 8192}, {875899, 8758}, {875900, 8759}, {875999, 8759}};
        for (int[] pair : allowedAndDue) {
            run.with("allowed 0 " + pair[0]).is("breaches", 3);
            for (int year = 0; year < 3; year++) {
                run.is("breach " + year + " 0", 8760 * year + pair[1]).is("breach " + year + " 1", 0);
            }
        }
        run.with("allowed 0 876000").is("breaches", 0).refuses("breach 0 0", Due.INDEX);
    }

    private static void firstAndLastHoursOfYears() {
        int[] hours = {0, 8759, 8760, 17519, 17520, 26279};
        for (int hour : hours) {
            Run.unseen("16, 'the hour behind which': first and last ones").with("allowed 0 99")
                .with("shown 0 " + hour + " " + (hour + 1))
                .is("breaches", 1).is("breach 0 0", hour).is("breach 0 1", 0).refuses("breach 1 0", Due.INDEX);
        }
    }

    private static void hourOfAFlash() {
        Run.unseen("16, 'the hour behind which': by a flash").with("allowed 0 1000", "shown 0 20 30")
            .is("breaches", 0)
            .with("flash 0 8759 1").is("breach 0 0", 8759)
            .with("flash 0 31 1").is("breach 0 0", 31)
            .with("flash 0 30 1").is("breach 0 0", 30)
            .with("flash 0 29 1").is("breach 0 0", 29)
            .with("flash 0 0 1").is("breach 0 0", 29)
            .with("flash 0 1 360000").is("breach 0 0", 28)
            .with("flash 0 1 3600000").is("breach 0 0", 1)
            .with("flash 0 0 3600000").is("breach 0 0", 0).is("breaches", 1);
    }

    private static void orderOfHours() {
        new Run("16, 'in the order of hours'").with("object 0", "object 0", "object 0", "allowed 0 0")
            .with("flash 0 17520 1", "flash 0 8759 1", "flash 1 8760 1", "flash 1 5 1", "flash 2 26279 1")
            .with("flash 2 0 1").is("breaches", 6)
            .is("breach 0 0", 0).is("breach 0 1", 2).is("breach 1 0", 5).is("breach 1 1", 1)
            .is("breach 2 0", 8759).is("breach 2 1", 0).is("breach 3 0", 8760).is("breach 3 1", 1)
            .is("breach 4 0", 17520).is("breach 4 1", 0).is("breach 5 0", 26279).is("breach 5 1", 2);
    }

    private static void thenObjects() {
        Run run = new Run("16, 'then objects'").with("allowed 0 0", "allowed 1 0");
        for (int object = 0; object < 12; object++) {
            run.with("object " + object % 2);
        }
        for (int object = 11; object >= 0; object--) {
            run.with("flash " + object + " 8760 1");
        }
        run.with("flash 7 8759 1", "flash 3 8759 1").is("breaches", 14)
            .is("breach 0 1", 3).is("breach 1 1", 7).is("breach 1 0", 8759);
        for (int object = 0; object < 12; object++) {
            run.is("breach " + (object + 2) + " 1", object).is("breach " + (object + 2) + " 0", 8760);
        }
    }

    private static void breachesAnew() {
        Run.unseen("16, 'Breach k': as it is after each change").with("allowed 0 99", "shown 0 50 51")
            .is("breach 0 0", 50)
            .with("shown 0 40 41").is("breach 0 0", 40)
            .with("presence 0 40 off").refuses("breach 0 0", Due.INDEX)
            .with("presence 0 45 on").is("breach 0 0", 50)
            .with("meter 0 50 99").refuses("breach 0 0", Due.INDEX)
            .with("daylight 2 1").is("breach 0 0", 50)
            .with("shines 0 0 989").refuses("breach 0 0", Due.INDEX)
            .with("flash 0 2 4000").is("breach 0 0", 50)
            .with("allowed 0 0").is("breach 0 0", 2)
            .with("object 0", "flash 1 1 1").is("breach 0 1", 1).is("breach 1 1", 0)
            .with("flash 1 8760 1", "object 0").is("breach 2 1", 1)
            .with("flash 1 17520 1", "lamp 5000").is("breach 3 0", 17520);
    }

    private static void breachOfNoNumber() {
        Run.withSomeOfAll("16, 'IndexOutOfBoundsException: k'").is("breaches", 6)
            .refusesEach("breach % 0", Due.INDEX, MIN, -1, 6, MAX)
            .refusesEach("breach % 1", Due.INDEX, MIN, -1, 6, MAX).is("breach 5 0", 17520).is("breach 5 1", 2);
        new Run("16, 'IndexOutOfBoundsException: k', where there is none").with("object 0")
            .refuses("breach 0 0", Due.INDEX).refuses("breach 0 1", Due.INDEX).refuses("breach -1 0", Due.INDEX);
    }

    private static void breachOfNeither() {
        Run.withSomeOfAll("16, 'or what is neither'")
            .refusesEach("breach 0 %", Due.INDEX, MIN, -1, 2, MAX).is("breach 0 0", 0).is("breach 0 1", 2);
    }

    private static void fewestChanges() {
        book("18, 'The fewest changes of pages'", 3, 1, 10, 5)
            .is("rotate 1", 0).is("rotate 10", 0).is("rotate 11", 1).is("rotate 15", 1).is("rotate 16", 2)
            .is("rotate 18", 2).is("rotate 19", 3).is("rotate 20", -1);
    }

    private static void rotateHours() {
        Run.withSomeOfAll("18, 'so many hours (1 .. 30000)'")
            .refusesEach("rotate %", Due.ARGUMENT, MIN, -1, 0, 30001, MAX).is("turned 1", 2)
            .is("rotate 1", 0).is("turned 0", 0).is("page 30000", 4).is("rotate 30000", 0).is("turned 0", 3);
        new Run("18, 'so many hours (1 .. 30000)', where there is no page")
            .refusesEach("rotate %", Due.ARGUMENT, MIN, -1, 0, 30001, MAX).is("rotate 1", -1).is("rotate 30000", -1);
    }

    private static void eachPageAtOneTime() {
        book("18, 'each page at one time'", 5).is("rotate 5", 0).is("rotate 6", -1).is("rotate 10", -1)
            .with("page 1").is("rotate 6", 1).is("rotate 7", -1).with("page 1").is("rotate 7", 2).is("rotate 8", -1);
        book("18, 'each page at one time': the longest one too", 20, 1, 8, 8)
            .is("rotate 36", 2).is("turned 0", 0).is("turned 1", 2).is("turned 2", 3);
    }

    private static void cannotBe() {
        new Run("18, 'NONE if that cannot be'").is("rotate 1", -1).is("count 4", 0)
            .with("page 0").is("rotate 1", -1).with("page 0").is("rotate 1", -1).is("count 4", 0)
            .with("page 1").is("rotate 2", -1).is("rotate 1", 0).is("turned 0", 2)
            .with("page 1").is("rotate 3", -1).is("rotate 2", 1).is("turned 0", 2).is("turned 1", 3);
    }

    private static Run bookOfTwelve(String sentence, int eachHours, int lastHours) {
        Run run = new Run(sentence);
        for (int page = 0; page < 11; page++) {
            run.with("page " + eachHours);
        }
        return run.with("page " + lastHours);
    }

    private static void allPages() {
        Run all = bookOfTwelve("18: all twelve pages", 2500, 2500).is("rotate 30000", 11).is("count 4", 12);
        for (int page = 0; page < 12; page++) {
            all.is("turned " + page, page);
        }
        all.refuses("turned 12", Due.INDEX).is("rotate 27500", 10).is("rotate 27501", 11);
        bookOfTwelve("18: all twelve pages, an hour less", 2500, 2499)
            .is("rotate 29999", 11).is("rotate 30000", -1).is("turned 11", 11);
        bookOfTwelve("18: twelve pages as long as can be", 30000, 30000).is("rotate 30000", 0).is("turned 0", 0);
    }

    private static void lowestPages() {
        book("18, 'Of such ways the one with the lowest pages'", 5, 5, 5, 10, 10)
            .is("rotate 5", 0).is("turned 0", 0)
            .is("rotate 6", 0).is("turned 0", 3)
            .is("rotate 15", 1).is("turned 0", 0).is("turned 1", 3)
            .is("rotate 16", 1).is("turned 0", 3).is("turned 1", 4)
            .is("rotate 21", 2).is("turned 0", 0).is("turned 1", 3).is("turned 2", 4)
            .is("rotate 35", 4).is("turned 1", 1).is("turned 2", 2);
    }

    private static void lowestWhereTheyDiffer() {
        book("18, '(by the lowest one where they differ)'", 1, 8, 2, 9)
            .is("rotate 10", 1).is("turned 0", 0).is("turned 1", 3)
            .is("rotate 11", 1).is("turned 0", 1).is("turned 1", 3)
            .is("rotate 18", 2).is("turned 0", 0).is("turned 1", 1).is("turned 2", 3)
            .is("rotate 19", 2).is("turned 0", 1).is("turned 1", 2).is("turned 2", 3);
        book("18, '(by the lowest one where they differ)', among three", 2, 1, 9, 8, 1, 9)
            .is("rotate 19", 2).is("turned 0", 0).is("turned 1", 2).is("turned 2", 3)
            .is("rotate 20", 2).is("turned 0", 0).is("turned 1", 2).is("turned 2", 5)
            .is("rotate 21", 2).is("turned 0", 2).is("turned 1", 3).is("turned 2", 5);
    }

    private static void turnedByNumber() {
        book("19, 'The k-th page, by number'", 0, 9, 1, 4, 7).is("rotate 20", 2)
            .is("turned 0", 1).is("turned 1", 3).is("turned 2", 4).is("turned 0", 1);
    }

    private static void turnedOfTheLatest() {
        book("19, 'of the latest rotate() that could be'", 3, 4).is("rotate 7", 1).is("turned 1", 1)
            .is("rotate 8", -1).is("turned 0", 0).is("turned 1", 1)
            .refuses("rotate 0", Due.ARGUMENT).refuses("rotate 30001", Due.ARGUMENT).is("turned 1", 1)
            .with("page 30000").is("turned 0", 0).is("turned 1", 1)
            .is("rotate 4", 0).is("turned 0", 1).refuses("turned 1", Due.INDEX)
            .is("rotate 5", 0).is("turned 0", 2).is("rotate 30000", 0).is("turned 0", 2);
    }

    private static void turnedOfNoPage() {
        Run.withSomeOfAll("19, 'IndexOutOfBoundsException'").refusesEach("turned %", Due.INDEX, MIN, -1, 2, MAX)
            .is("turned 0", 0).is("turned 1", 2);
        book("19, 'IndexOutOfBoundsException', before any rotate()", 5, 5)
            .refusesEach("turned %", Due.INDEX, -1, 0, 1)
            .is("rotate 11", -1).refusesEach("turned %", Due.INDEX, -1, 0, 1);
    }

    private static void counts() {
        Run.withSomeOfAll("20, '0 objects, 1 lamps, 2 flashes, 3 pages, 4 pages of the latest rotate()'")
            .is("count 0", 3).is("count 1", 2).is("count 2", 3).is("count 3", 3).is("count 4", 2)
            .with("object 0").is("count 0", 4).with("lamp 0").is("count 1", 3).with("flash 3 0 0").is("count 2", 4)
            .with("page 0").is("count 3", 4).with("rotate 1").is("count 4", 1)
            .is("count 0", 4).is("count 1", 3).is("count 2", 4).is("count 3", 4);
    }

    private static void countOfTheLatest() {
        book("20, 'the latest rotate() that could be'", 3, 4).is("count 4", 0).is("rotate 8", -1).is("count 4", 0)
            .is("rotate 7", 1).is("count 4", 2).is("rotate 8", -1).is("count 4", 2)
            .refuses("rotate 0", Due.ARGUMENT).with("page 1").is("count 4", 2)
            .is("rotate 8", 2).is("count 4", 3).is("rotate 1", 0).is("count 4", 1);
    }

    private static void countOfNone() {
        Run.withSomeOfAll("20, 'none of these'").refusesEach("count %", Due.INDEX, MIN, -1, 5, MAX);
        new Run("20, 'none of these', of a new one").refusesEach("count %", Due.INDEX, -1, 5)
            .is("count 0", 0).is("count 4", 0);
    }
}
