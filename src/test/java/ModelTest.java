import java.util.Random;

/**
 * Long runs of drawn calls, wrong ones among them, must have the plain model's answers; the draws are the same
 * each time.
 */
public final class ModelTest {
    private static final int RUNS = 120;
    private static final int CALLS = 512;
    private static final int[] EDGES = {Integer.MIN_VALUE, -2, -1, 0, 1, 5, 6, 7, 8, 11, 12, 16, 20, 23, 24, 40, 999,
        1000, 1001, 5000, 5001, 8759, 8760, 17519, 17520, 26279, 26280, 26281, 30000, 30001, 1000000000, 1000000001,
        Integer.MAX_VALUE};

    private final Random random;
    private final LightDoses x = new LightDoses();
    private final PlainModel model = new PlainModel();
    private final int run;
    /** How far hours lie apart: small steps make rows, changes and flashes meet. */
    private final int spread;
    private final int middle;
    private int made = 0;

    private ModelTest(int run) {
        this.run = run;
        random = new Random(run);
        spread = new int[] {6, 40, 400, 9000, PlainModel.HOURS}[random.nextInt(5)];
        middle = new int[] {0, 30, 8760, 17520, 12000, 26279}[random.nextInt(6)];
    }

    public static void main(String[] args) {
        for (int run = 0; run < RUNS && Due.wrongSoFar() == 0; run++) {
            new ModelTest(run).calls();
        }
        Due.end();
    }

    private void calls() {
        int setUp = random.nextInt(13);
        for (int i = 0; i < setUp; i++) {
            compare(i < 8 ? 2 : 0);
        }
        int favourite = random.nextInt(19);
        // A draw makes two calls at the most.
        while (made + 2 <= CALLS) {
            compare(random.nextInt(6) == 0 ? favourite : random.nextInt(19));
        }
    }

    private void due(String call, Due.Call ours, Due.Call plain) {
        made++;
        Due.is("run " + run + ": " + call, Due.answer(ours), plainAnswer(plain));
    }

    private static String plainAnswer(Due.Call plain) {
        try {
            return String.valueOf(plain.make());
        } catch (IndexOutOfBoundsException | IllegalStateException | IllegalArgumentException e) {
            return "throws." + e.getClass().getSimpleName();
        }
    }

    private int below(int bound) {
        return random.nextInt(25) == 0 ? EDGES[random.nextInt(EDGES.length)] : random.nextInt(Math.max(1, bound));
    }

    private int hour() {
        int drawn = middle + random.nextInt(2 * spread + 1) - spread;
        int hour = Math.max(0, Math.min(PlainModel.HOURS - 1, drawn));
        return random.nextInt(25) == 0 ? EDGES[random.nextInt(EDGES.length)] : hour;
    }

    private int endBehind(int from) {
        return random.nextInt(8) == 0 ? hour() : from + 1 + random.nextInt(random.nextBoolean() ? 10 : spread);
    }

    private int object() {
        return below(model.classes.size());
    }

    private int lamp() {
        return below(model.firstLux.size());
    }

    private int lux() {
        return random.nextBoolean() ? below(100) : below(5001);
    }

    /** Often just what an object gets in a year, or one lux hour beside it: the edge of a breach. */
    private int allowance() {
        int kind = random.nextInt(5);
        if (kind == 0 || model.classes.isEmpty()) {
            return below(2) - 1;
        }
        if (kind == 1) {
            return below(100000);
        }
        int object = random.nextInt(model.classes.size());
        int start = random.nextInt(3) * PlainModel.YEAR;
        int end = start + 1 + random.nextInt(PlainModel.YEAR);
        int got = (int) (model.parts(object, start, kind == 2 ? end : start + PlainModel.YEAR) / PlainModel.LUX_HOUR);
        return got + random.nextInt(3) - 1;
    }

    private void compare(int which) {
        if (which < 10) {
            compareChange(which);
        } else {
            compareQuestion(which);
        }
    }

    private void compareChange(int which) {
        int o = object();
        int l = lamp();
        int h = hour();
        int c = random.nextInt(3) > 0 ? random.nextInt(2) : below(6);
        int v = lux();
        int to = endBehind(h);
        switch (which) {
            case 0 -> due("object(" + c + ")", () -> x.object(c), () -> model.object(c));
            case 1 -> {
                int a = allowance();
                due("allowed(" + c + ", " + a + ")", () -> x.allowed(c, a), () -> model.allowed(c, a));
            }
            case 2 -> due("lamp(" + v + ")", () -> x.lamp(v), () -> model.lamp(v));
            case 3, 4 -> {
                int s = random.nextInt(3) == 0 ? 1000 : below(1001);
                due("shines(" + l + ", " + o + ", " + s + ")", () -> x.shines(l, o, s), () -> model.shines(l, o, s));
            }
            case 5 -> {
                int t = below(24);
                due("daylight(" + t + ", " + v + ")", () -> x.daylight(t, v), () -> model.daylight(t, v));
            }
            case 6 -> due("shown(" + o + ", " + h + ", " + to + ")",
                () -> x.shown(o, h, to), () -> model.shown(o, h, to));
            case 7 -> {
                boolean on = random.nextBoolean();
                due("presence(" + l + ", " + h + ", " + on + ")",
                    () -> x.presence(l, h, on), () -> model.presence(l, h, on));
            }
            case 8 -> due("meter(" + l + ", " + h + ", " + v + ")", () -> x.meter(l, h, v), () -> model.meter(l, h, v));
            default -> {
                int s = random.nextBoolean() ? below(10000) : below(1000000001);
                due("flash(" + o + ", " + h + ", " + s + ")", () -> x.flash(o, h, s), () -> model.flash(o, h, s));
            }
        }
    }

    private void compareQuestion(int which) {
        int o = object();
        int h = hour();
        int to = endBehind(h);
        switch (which) {
            case 10 -> {
                boolean all = random.nextBoolean();
                int from = all ? 0 : h;
                int end = all ? PlainModel.HOURS : to;
                due("sum(" + o + ", " + from + ", " + end + ")",
                    () -> x.sum(o, from, end), () -> model.sum(o, from, end));
                due("rest()", () -> x.rest(), () -> model.rest());
            }
            case 11 -> {
                int y = below(3);
                due("left(" + o + ", " + y + ")", () -> x.left(o, y), () -> model.left(o, y));
            }
            case 12, 13 -> {
                int end = random.nextBoolean() ? PlainModel.HOURS : to;
                due("plan(" + o + ", " + h + ", " + end + ")", () -> x.plan(o, h, end), () -> model.plan(o, h, end));
            }
            case 14 -> compareBreaches();
            case 15 -> {
                int p = random.nextBoolean() ? below(10) : below(30001);
                due("page(" + p + ")", () -> x.page(p), () -> model.page(p));
            }
            case 16 -> {
                int p = random.nextBoolean() ? below(60) : below(30001);
                due("rotate(" + p + ")", () -> x.rotate(p), () -> model.rotate(p));
            }
            case 17 -> {
                int k = below(model.turnedPages.size());
                due("turned(" + k + ")", () -> x.turned(k), () -> model.turned(k));
            }
            default -> {
                int w = below(5);
                due("count(" + w + ")", () -> x.count(w), () -> model.count(w));
            }
        }
    }

    private void compareBreaches() {
        due("breaches()", () -> x.breaches(), () -> model.breaches());
        int k = below(model.breaches());
        int w = below(2);
        due("breach(" + k + ", " + w + ")", () -> x.breach(k, w), () -> model.breach(k, w));
    }
}
