import java.util.ArrayList;
import java.util.List;

/**
 * A test of one sentence of the document: a run of calls on one new object, each told as a text such as
 * "shown 0 10 20", with the answers that are due.
 */
final class Run {
    static final int MIN = Integer.MIN_VALUE;
    static final int MAX = Integer.MAX_VALUE;
    private static final int MOST_CALLS = 512;
    private static final String[][] PROBES = {looks(), changes()};

    private final String sentence;
    private final LightDoses x = new LightDoses();
    private final List<String> answered = new ArrayList<>();
    private int calls = 0;
    /** What the probes answer behind the calls answered so far; null if they have not been asked yet. */
    private List<String> unchanged = null;

    Run(String sentence) {
        this.sentence = sentence;
    }

    /** A run that begins with an object that is never shown, and a lamp of 100 lux that falls on it whole. */
    static Run unseen(String sentence) {
        return new Run(sentence).with("object 0", "lamp 100", "shines 0 0 1000");
    }

    /** The same with the object always shown. */
    static Run lit(String sentence) {
        return unseen(sentence).with("shown 0 0 26280");
    }

    /** A run that begins with some of everything, so that a refused call has something that it could change. */
    static Run withSomeOfAll(String sentence) {
        return new Run(sentence)
            .with("object 0", "object 1", "object 5", "lamp 100", "lamp 5000")
            .with("shines 0 0 1000", "shines 1 0 3", "shines 0 1 500", "shines 0 2 250", "shines 1 2 999")
            .with("daylight 0 5", "daylight 9 300", "daylight 23 17")
            .with("shown 0 10 40", "shown 0 30 60", "shown 1 8750 8770", "shown 2 0 26280")
            .with("presence 0 12 off", "presence 0 20 on", "presence 1 9000 off", "presence 1 10000 on")
            .with("meter 0 15 200", "meter 1 17520 40")
            .with("flash 0 11 3601", "flash 1 17519 7", "flash 2 26279 1000000000")
            .with("allowed 0 2000", "allowed 1 900", "allowed 5 0")
            .with("page 5", "page 0", "page 9", "rotate 12", "breaches", "sum 0 0 26280");
    }

    /** Calls that must be answered, whatever the answers are. */
    Run with(String... more) {
        for (String call : more) {
            String got = make(call);
            Due.is(told(call) + ", which must be answered,", got.startsWith("throws") ? got : "a number", "a number");
        }
        return this;
    }

    Run is(String call, long due) {
        Due.is(told(call), make(call), String.valueOf(due));
        return this;
    }

    /** What an object got in one hour, in whole lux hours. */
    Run hour(int object, int hour, int due) {
        return is("sum " + object + " " + hour + " " + (hour + 1), due);
    }

    /** The call throws, and all that can be asked then has the answers that it has without the call. */
    Run refuses(String call, String due) {
        Due.is(told(call), count(call), due);
        if (unchanged == null) {
            unchanged = probed(answered);
        }
        List<String> more = new ArrayList<>(answered);
        more.add(call);
        List<String> changed = probed(more);
        for (int i = 0; i < changed.size(); i++) {
            Due.is(told(call) + ", which is refused; then", changed.get(i), unchanged.get(i));
        }
        return this;
    }

    /** The same for a call whose % stands for each of the values. */
    Run refusesEach(String call, String due, int... values) {
        for (int value : values) {
            refuses(call.replace("%", String.valueOf(value)), due);
        }
        return this;
    }

    private String told(String call) {
        return sentence + ": " + call;
    }

    private String make(String call) {
        answered.add(call);
        unchanged = null;
        return count(call);
    }

    private String count(String call) {
        calls++;
        checkCalls(calls);
        return answer(x, call);
    }

    // Nothing is promised of an object's later calls, so no test may lean on them.
    private void checkCalls(int made) {
        if (made > MOST_CALLS) {
            throw new AssertionError("the test makes more than 512 calls: " + sentence);
        }
    }

    private List<String> probed(List<String> before) {
        List<String> answers = new ArrayList<>();
        for (String[] probe : PROBES) {
            checkCalls(before.size() + probe.length);
            LightDoses twin = new LightDoses();
            for (String call : before) {
                answer(twin, call);
            }
            for (String call : probe) {
                answers.add(call + " = " + answer(twin, call));
            }
        }
        return answers;
    }

    /** All questions, each with answers for any object, year, breach and page that may be there. */
    private static String[] looks() {
        List<String> looks = new ArrayList<>(List.of("rest", "breaches"));
        addEach(looks, "count %", 5);
        addEach(looks, "turned %", 12);
        addEach(looks, "breach % 0", 36);
        addEach(looks, "breach % 1", 36);
        for (int year = 0; year < 3; year++) {
            int start = 8760 * year;
            addEach(looks, "left % " + year, 12);
            addEach(looks, "plan % " + start + " 26280", 12);
            for (int object = 0; object < 12; object++) {
                looks.add("sum " + object + " " + start + " " + (start + 8760));
                looks.add("rest");
            }
        }
        return looks.toArray(new String[0]);
    }

    /** Calls whose answers tell what was there before, and how many there are. */
    private static String[] changes() {
        List<String> changes = new ArrayList<>();
        addEach(changes, "allowed % 7", 6);
        addEach(changes, "daylight % 7", 24);
        for (int lamp = 0; lamp < 8; lamp++) {
            addEach(changes, "shines " + lamp + " % 7", 12);
        }
        addEach(changes, "presence % 13 on", 8);
        addEach(changes, "meter % 13 5", 8);
        addEach(changes, "shown % 13 14", 12);
        changes.addAll(List.of("flash 0 13 1", "page 5", "rotate 1", "turned 0", "object 0", "lamp 1", "breaches"));
        addEach(changes, "sum % 0 26280", 12);
        return changes.toArray(new String[0]);
    }

    private static void addEach(List<String> calls, String call, int count) {
        for (int i = 0; i < count; i++) {
            calls.add(call.replace("%", String.valueOf(i)));
        }
    }

    private static String answer(LightDoses x, String call) {
        String[] words = call.split(" ");
        int[] a = new int[words.length - 1];
        for (int i = 0; i < a.length; i++) {
            a[i] = number(words[i + 1]);
        }
        return Due.answer(() -> made(x, words[0] + "/" + a.length, a));
    }

    private static int number(String word) {
        return switch (word) {
            case "on" -> 1;
            case "off" -> 0;
            case "NONE" -> LightDoses.NONE;
            default -> Integer.parseInt(word);
        };
    }

    private static int made(LightDoses x, String nameAndLength, int[] a) {
        return switch (nameAndLength) {
            case "object/1" -> x.object(a[0]);
            case "allowed/2" -> x.allowed(a[0], a[1]);
            case "lamp/1" -> x.lamp(a[0]);
            case "shines/3" -> x.shines(a[0], a[1], a[2]);
            case "daylight/2" -> x.daylight(a[0], a[1]);
            case "shown/3" -> x.shown(a[0], a[1], a[2]);
            case "presence/3" -> x.presence(a[0], a[1], a[2] == 1);
            case "meter/3" -> x.meter(a[0], a[1], a[2]);
            case "flash/3" -> x.flash(a[0], a[1], a[2]);
            case "sum/3" -> x.sum(a[0], a[1], a[2]);
            case "rest/0" -> x.rest();
            case "left/2" -> x.left(a[0], a[1]);
            case "plan/3" -> x.plan(a[0], a[1], a[2]);
            case "breaches/0" -> x.breaches();
            case "breach/2" -> x.breach(a[0], a[1]);
            case "page/1" -> x.page(a[0]);
            case "rotate/1" -> x.rotate(a[0]);
            case "turned/1" -> x.turned(a[0]);
            case "count/1" -> x.count(a[0]);
            default -> throw new AssertionError("the test has a wrong call: " + nameAndLength);
        };
    }
}
