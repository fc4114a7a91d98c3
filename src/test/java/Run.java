import java.util.List;

/**
 * A run of calls on one object, each with the answer that is due (a boolean counts 1 or 0). A call that is
 * refused must throw what is due and change nothing: an object that had it answers as one that did not.
 */
final class Run {
    static final String INDEX = "throws.IndexOutOfBoundsException";
    static final String ARGUMENT = "throws.IllegalArgumentException";
    static final String STATE = "throws.IllegalStateException";
    static final int NONE = GrandsireLoft.NONE;

    private static int right;
    private static int wrong;

    private final Asked asked;
    private String sentences;

    Run(String sentences) {
        this.sentences = sentences;
        asked = new Asked();
    }

    /** Tests a sentence of another section of the document, too. */
    Run also(String section, String words) {
        sentences += "; " + Bounds.told(section, words);
        return this;
    }

    static int rightAnswers() {
        return right;
    }

    static int wrongAnswers() {
        return wrong;
    }

    void is(long due, String name, int... arguments) {
        compare(String.valueOf(due), asked.ask(name, arguments), name, arguments);
    }

    /** A call on the way to the boundary: it must answer, whatever it be. */
    int does(String name, int... arguments) {
        String answer = asked.ask(name, arguments);
        if (answer.startsWith("throws")) {
            compare("an answer", answer, name, arguments);
            return NONE;
        }
        return Integer.parseInt(answer);
    }

    void refuses(String due, String name, int... arguments) {
        List<Asked.Call> before = asked.calls();
        if (compare(due, asked.ask(name, arguments), name, arguments)) {
            String change = Probes.changeBy(before, new Asked.Call(name, arguments));
            compare("no change", change.isEmpty() ? "no change" : change, name, arguments);
        }
    }

    /** The argument at a place may be least to most: the next ones beyond, and the farthest, are refused. */
    void refusesBeyond(String due, int least, int most, int at, String name, int... arguments) {
        for (int value : new int[] {Integer.MIN_VALUE, least - 1, most + 1, Integer.MAX_VALUE}) {
            int[] odd = arguments.clone();
            odd[at] = value;
            refuses(due, name, odd);
        }
    }

    /** A call that is not refused must be seen to change something; it is not made in this run. */
    void sees(String name, int... arguments) {
        boolean isSeen = !Probes.changeBy(asked.calls(), new Asked.Call(name, arguments)).isEmpty();
        compare("a change", isSeen ? "a change" : "no change", name, arguments);
    }

    int callsLeft() {
        return asked.callsLeft();
    }

    private boolean compare(String due, String got, String name, int... arguments) {
        if (due.equals(got)) {
            right++;
            return true;
        }
        wrong++;
        String call = new Asked.Call(name, arguments) + " as call " + asked.calls().size();
        System.out.println(sentences + ": " + call + ": " + got + ", due is " + due);
        return false;
    }

    // ---- what many runs begin with

    int method(int stage, int... changes) {
        for (int places : changes) {
            does("change", places);
        }
        return does("method", stage);
    }

    /** Plain hunt on four: 1032 1302 3120 3210 2301 2031 0213 0123, two rows a lead. */
    int hunt() {
        return method(4, 0, 9);
    }

    /** Plain hunt on five: 10324 13042 31402 34120 43210 42301 24031 20413 02143 01234, two rows a lead. */
    int huntOfFive() {
        return method(5, 16, 1);
    }

    /** Plain hunt on six: 103254 130524 315042 351402 534120 543210 452301 425031 240513 204153 021435 012345. */
    int huntOfSix() {
        return method(6, 0, 33);
    }

    /** All neighbours swap: 1032 and 0123, one row a lead. */
    int cross() {
        return method(4, 0);
    }

    /** Plain Bob Minor, 12 rows a lead, 60 in five leads. */
    int minor() {
        return method(6, 0, 33, 0, 33, 0, 33, 0, 33, 0, 33, 0, 3);
    }

    /** Leads of one method, with the call of each sign. */
    int touch(int method, String calls) {
        for (char call : calls.toCharArray()) {
            does("lead", method, call - '0');
        }
        return does("touch");
    }

    /** Touches that are sound: 0 of eight rows on four, 1 of ten on five, 2 of twelve on six, 3 as 0. */
    void hunts() {
        touch(hunt(), "0000");
        touch(huntOfFive(), "00000");
        touch(huntOfSix(), "000000");
        touch(0, "0000");
    }

    /** The hunts, planned for today, and one of them being rung. */
    void rings(int touch, int people, int gap) {
        hunts();
        for (int each = 0; each < 4; each++) {
            does("plan", 0, each);
        }
        does("ring", touch, people, gap);
    }

    /** The next pull of a bell, with an error. */
    int pulls(int bell, int error) {
        return does("pull", bell, does("due", bell) + error);
    }

    void pullsOnTime(int bell, int times) {
        for (int row = 0; row < times; row++) {
            pulls(bell, 0);
        }
    }
}
