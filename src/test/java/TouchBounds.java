/** Promises 12 to 24, and the terms "Touches". */
final class TouchBounds {
    private static final String INDEX = Run.INDEX;
    private static final String ARGUMENT = Run.ARGUMENT;
    private static final String STATE = Run.STATE;
    private static final int NONE = GrandsireLoft.NONE;
    private static final int PLAIN = GrandsireLoft.PLAIN;
    private static final int BOB = GrandsireLoft.BOB;
    private static final int SINGLE = GrandsireLoft.SINGLE;

    /** Twenty leads of the minor, with BOB 9 and SINGLE 15: 240 rows, all unlike, and the last one rounds. */
    private static final String LONGEST = "00001000010002000012";

    private TouchBounds() {
    }

    static void all() {
        rowsOfATouch();
        callsOfNow();
        trueAndRound();
        lead();
        leadsOfOneStage();
        dropLeads();
        touchOfADraft();
        touchesAreAtMostTwelve();
        compose();
        composeTakesTheLesserCall();
        composeFindsNone();
        composeUpToTwelve();
        leads();
        rows();
        rowAt();
        bellAt();
        isTrue();
        comesRound();
        firstRepeat();
    }

    /** The longest touch that is sound, as the touch 0. */
    static void longest(Run run) {
        run.minor();
        run.does("setCall", 0, BOB, 9);
        run.does("setCall", 0, SINGLE, 15);
        run.touch(0, LONGEST);
    }

    /** A call whose first argument is a touch is refused for touches that are not there, with 0, 1 and 12 of them. */
    static void touchIsThere(Run run, long due, String name, int... arguments) {
        run.refuses(INDEX, name, arguments);
        run.cross();
        run.refuses(INDEX, name, arguments);
        run.touch(0, "00");
        run.refusesBeyond(INDEX, 0, 0, 0, name, arguments);
        for (int count = 1; count < 12; count++) {
            run.touch(0, "00");
        }
        run.refusesBeyond(INDEX, 0, 11, 0, name, arguments);
        int[] last = arguments.clone();
        last[0] = 11;
        run.is(due, name, arguments);
        run.is(due, name, last);
    }

    // ---- terms

    private static void rowsOfATouch() {
        Run run = Bounds.of("Touches", "the first one of which begins with rounds");
        run.hunt();
        run.cross();
        run.does("lead", 0, PLAIN);
        run.does("lead", 1, PLAIN);
        run.does("lead", 0, PLAIN);
        run.does("touch");
        // 1032 1302, 3120, 1302 1032: the rounds ahead of them are none of its rows
        int[] numbers = {7, 10, 21, 10, 7};
        for (int row = 0; row < numbers.length; row++) {
            run.is(numbers[row], "rowAt", 0, row);
        }
        run.is(5, "rows", 0);
        run.refuses(INDEX, "rowAt", 0, 5);
        run.refuses(INDEX, "rowAt", 0, -1);
    }

    private static void callsOfNow() {
        Run run = Bounds.of("Touches", "They are by the changes that the calls have now");
        run.hunt();
        run.touch(0, "0001");
        run.is(1, "comesRound", 0);
        run.is(9, "setCall", 0, BOB, 3);
        run.is(0, "comesRound", 0);
        run.is(2, "rowAt", 0, 6);
        run.is(3, "rowAt", 0, 7);
        run.is(3, "bellAt", 0, 7, 2);
        run.is(9, "setCall", 0, SINGLE, 0);
        run.is(3, "rowAt", 0, 7);
        run.is(3, "setCall", 0, BOB, 9);
        run.is(1, "comesRound", 0);
        run.is(0, "rowAt", 0, 7);
    }

    private static void sound(Run run, int touch, int isTrue, int comesRound) {
        run.is(isTrue, "isTrue", touch);
        run.is(comesRound, "comesRound", touch);
        if (isTrue + comesRound == 2) {
            run.is(1, "plan", touch, touch);
        } else {
            run.refuses(STATE, "plan", touch, touch);
        }
    }

    private static void trueAndRound() {
        Run run = Bounds.of("Touches", "it is sound if it is true and comes round");
        run.hunt();
        run.cross();
        run.method(4, 0, 0);
        sound(run, run.touch(0, "000"), 1, 0);
        sound(run, run.touch(0, "0000"), 1, 1);
        sound(run, run.touch(0, "00000"), 0, 0);
        sound(run, run.touch(0, "00000000"), 0, 1);
        sound(run, run.touch(1, "0"), 1, 0);
        sound(run, run.touch(1, "00"), 1, 1);
        sound(run, run.touch(1, "000"), 0, 0);
        sound(run, run.touch(2, "0"), 1, 1);
        sound(run, run.touch(2, "00"), 0, 1);
    }

    // ---- promises

    private static void lead() {
        Run method = Bounds.of(12, "`method`: a method", "if there is no such method");
        method.refuses(INDEX, "lead", 0, PLAIN);
        method.cross();
        method.refusesBeyond(INDEX, 0, 0, 0, "lead", 0, PLAIN);
        for (int count = 1; count < 8; count++) {
            method.cross();
        }
        method.is(1, "lead", 0, PLAIN);
        method.is(2, "lead", 7, PLAIN);
        method.refusesBeyond(INDEX, 0, 7, 0, "lead", 0, PLAIN);

        Run call = Bounds.of(12, "`call`: PLAIN to SINGLE", "if call is out of range");
        call.cross();
        call.refusesBeyond(ARGUMENT, PLAIN, SINGLE, 1, "lead", 0, 0);
        for (int each = PLAIN; each <= SINGLE; each++) {
            call.is(each + 1, "lead", 0, each);
        }
        call.refusesBeyond(ARGUMENT, PLAIN, SINGLE, 1, "lead", 0, 0);
        call.is(0, "touch");
        for (int each = PLAIN; each <= SINGLE; each++) {
            call.is(each, "leadAt", 0, each);
        }

        Run full = Bounds.of(12, "Adds a lead to the draft of a touch", "Returns how many leads the draft has then",
                "if the draft has 20").also("Touches", "A touch is 1 to 20 leads");
        full.refuses(STATE, "touch");
        full.cross();
        full.refuses(STATE, "touch");
        full.is(1, "lead", 0, PLAIN);
        full.is(0, "touch");
        for (int count = 1; count <= 20; count++) {
            full.is(count, "lead", 0, count == 20 ? SINGLE : BOB);
        }
        full.refuses(STATE, "lead", 0, PLAIN);
        full.refuses(STATE, "lead", 0, SINGLE);
        full.is(1, "touch");
        full.is(1, "leads", 0);
        full.is(20, "leads", 1);
        full.is(BOB, "leadAt", 1, 18);
        full.is(SINGLE, "leadAt", 1, 19);
        full.is(1, "lead", 0, PLAIN);
    }

    private static void leadsOfOneStage() {
        Run run = Bounds.of(12, "or one of a method of another stage")
                .also("Touches", "of methods of one stage, which is that of the touch");
        run.hunt();
        run.huntOfFive();
        run.huntOfSix();
        run.cross();
        for (int method = 0; method < 3; method++) {
            run.is(1, "lead", method, PLAIN);
            for (int other = 0; other < 4; other++) {
                if (other == method || other + method == 3 && other * method == 0) {
                    run.is(2, "lead", other, PLAIN);
                    run.is(2, "dropLeads");
                    run.is(1, "lead", method, PLAIN);
                } else {
                    run.refuses(STATE, "lead", other, PLAIN);
                }
            }
            run.is(method, "touch");
            run.refuses(INDEX, "bellAt", method, 0, 4 + method);
            run.does("bellAt", method, 0, 3 + method);
        }
    }

    private static void dropLeads() {
        Run run = Bounds.of(13, "Drops the draft of a touch; returns how many leads it had");
        run.is(0, "dropLeads");
        run.cross();
        run.is(0, "dropLeads");
        run.does("lead", 0, BOB);
        run.is(1, "dropLeads");
        run.is(0, "dropLeads");
        run.refuses(STATE, "touch");
        for (int count = 1; count <= 20; count++) {
            run.does("lead", 0, PLAIN);
        }
        run.is(20, "dropLeads");
        run.refuses(STATE, "touch");
        run.is(1, "lead", 0, SINGLE);
        run.is(0, "touch");
        run.is(1, "leads", 0);
        run.is(SINGLE, "leadAt", 0, 0);
    }

    private static void touchOfADraft() {
        Run run = Bounds.of(14, "Makes a touch of the draft, which is empty then", "if the draft is empty");
        run.refuses(STATE, "touch");
        run.cross();
        run.refuses(STATE, "touch");
        run.does("lead", 0, PLAIN);
        run.is(0, "touch");
        run.is(0, "dropLeads");
        run.refuses(STATE, "touch");
        run.is(1, "touches");
    }

    private static void touchesAreAtMostTwelve() {
        Run run = Bounds.of(14, "Returns its number", "or there are 12 touches")
                .also("Promise 16", "Returns how many touches there are")
                .also("Touches", "Touches are numbered from 0, at most 12");
        run.is(0, "touches");
        run.cross();
        for (int number = 0; number < 12; number++) {
            run.is(number, "touches");
            run.does("lead", 0, number % 3);
            run.is(number, "touch");
        }
        run.is(12, "touches");
        run.is(2, "leadAt", 11, 0);
        run.refuses(INDEX, "leads", 12);
        run.refuses(STATE, "touch");
        run.does("lead", 0, PLAIN);
        run.refuses(STATE, "touch");
        run.is(1, "dropLeads");
        run.is(12, "touches");
    }

    private static void compose() {
        Run method = Bounds.of(15, "`method`: a method", "if there is no such method");
        MethodBounds.methodIsThere(method, NONE, "compose", 0, 1);

        Run run = Bounds.of(15, "`leads`: 1 to 6: how many it has", "if leads is out of range");
        run.method(6, 0, 0);
        run.huntOfSix();
        run.refusesBeyond(ARGUMENT, 1, 6, 1, "compose", 0, 1);
        run.is(0, "compose", 0, 1);
        run.is(1, "compose", 1, 6);
        run.refusesBeyond(ARGUMENT, 1, 6, 1, "compose", 1, 1);
        run.is(1, "leads", 0);
        run.is(6, "leads", 1);
        run.is(1, "comesRound", 0);
        run.is(1, "isTrue", 1);
        run.is(2, "touches");
    }

    /** All ways to call two leads, the least first, each as a touch; and then the touch that is composed. */
    private static void composesOfTwo(int[] changes, int bob, int single, String due) {
        Run run = Bounds.of(15, "the lesser call at the first lead at which they differ");
        run.method(4, changes);
        run.does("setCall", 0, BOB, bob);
        run.does("setCall", 0, SINGLE, single);
        int first = NONE;
        for (int way = 0; way < 9; way++) {
            String calls = "" + way / 3 + way % 3;
            int touch = run.touch(0, calls);
            boolean isSound = run.does("isTrue", touch) + run.does("comesRound", touch) == 2;
            first = first == NONE && isSound ? touch : first;
        }
        run.is(due.isEmpty() ? NONE : 9, "compose", 0, 2);
        run.is(due.isEmpty() ? 9 : 10, "touches");
        for (int lead = 0; lead < due.length(); lead++) {
            run.is(due.charAt(lead) - '0', "leadAt", 9, lead);
            run.is(due.charAt(lead) - '0', "leadAt", first, lead);
        }
    }

    private static void composeTakesTheLesserCall() {
        composesOfTwo(new int[] {0}, 9, 3, "00");
        composesOfTwo(new int[] {0}, 0, 0, "00");
        composesOfTwo(new int[] {9, 0, 9, 3}, 12, 0, "01");
        composesOfTwo(new int[] {9, 0, 9, 3}, 0, 12, "02");
        composesOfTwo(new int[] {0, 0}, 3, 9, "11");
        composesOfTwo(new int[] {9, 0, 9, 9}, 3, 12, "12");
        composesOfTwo(new int[] {9, 0, 9, 9}, 12, 3, "12");
        composesOfTwo(new int[] {0, 0}, 9, 3, "22");
        composesOfTwo(new int[] {0, 9}, 9, 9, "");
        composes(new int[] {0, 9, 0, 9, 0, 9, 0, 3}, 9, 12, 1, "1");
        composes(new int[] {0, 9, 0, 9, 0, 9, 0, 3}, 12, 9, 1, "2");
        composes(new int[] {0, 9, 0, 9, 0, 9, 0, 3}, 9, 9, 1, "1");
        composes(new int[] {0, 9, 0, 9, 0, 9, 0, 3}, 3, 9, 1, "2");
        composes(new int[] {3}, 12, 0, 3, "012");
        composes(new int[] {3}, 0, 12, 3, "012");
        composes(new int[] {0}, 9, 3, 4, "0202");
        composes(new int[] {0}, 3, 9, 4, "0101");
        composes(new int[] {9}, 0, 3, 4, "1212");
        composes(new int[] {9}, 3, 0, 4, "1212");
        composes(new int[] {0}, 9, 3, 6, "121212");
    }

    private static void composes(int[] changes, int bob, int single, int leads, String due) {
        Run run = Bounds.of(15, "Makes a touch of some leads of one method that is sound");
        run.method(4, changes);
        run.does("setCall", 0, BOB, bob);
        run.does("setCall", 0, SINGLE, single);
        run.is(0, "compose", 0, leads);
        run.is(leads, "leads", 0);
        run.is((long) leads * changes.length, "rows", 0);
        run.is(1, "isTrue", 0);
        run.is(1, "comesRound", 0);
        for (int lead = 0; lead < leads; lead++) {
            run.is(due.charAt(lead) - '0', "leadAt", 0, lead);
        }
    }

    private static void composeFindsNone() {
        Run run = Bounds.of(15, "NONE if none is sound, and none is made");
        run.hunt();
        run.does("lead", 0, BOB);
        for (int leads = 1; leads <= 6; leads++) {
            run.is(leads < 4 ? 0 : leads == 4 ? 0 : 1, "touches");
            run.is(leads == 4 ? 0 : NONE, "compose", 0, leads);
        }
        run.is(1, "touches");
        run.is(4, "leads", 0);
        run.refuses(INDEX, "leads", 1);
        run.is(1, "touch");
        run.is(BOB, "leadAt", 1, 0);
    }

    private static void composeUpToTwelve() {
        Run run = Bounds.of(15, "if there are 12 touches", "Returns the number of the touch");
        run.cross();
        for (int number = 0; number < 12; number++) {
            run.is(NONE, "compose", 0, 1);
            run.is(number, "compose", 0, 2);
        }
        run.refuses(STATE, "compose", 0, 2);
        run.refuses(STATE, "compose", 0, 1);
        run.is(12, "touches");
        run.is(2, "leads", 11);
    }

    private static void leads() {
        touchIsThere(Bounds.of(17, "if there is no such touch"), 2, "leads", 0);

        Run count = Bounds.of(17, "Returns how many leads a touch has");
        count.cross();
        count.is(1, "leads", count.touch(0, "0"));
        count.is(20, "leads", count.touch(0, "00000000000000000000"));

        Run index = Bounds.of(18, "if there is no such touch, or lead", "Returns a lead of a touch");
        index.refuses(INDEX, "leadAt", 0, 0);
        index.cross();
        index.touch(0, "2");
        index.touch(0, "10000000000000000002");
        index.refusesBeyond(INDEX, 0, 1, 0, "leadAt", 0, 0);
        index.refusesBeyond(INDEX, 0, 0, 1, "leadAt", 0, 0);
        index.refusesBeyond(INDEX, 0, 19, 1, "leadAt", 1, 0);
        index.is(2, "leadAt", 0, 0);
        index.is(1, "leadAt", 1, 0);
        index.is(0, "leadAt", 1, 18);
        index.is(2, "leadAt", 1, 19);

        Run sum = Bounds.of(18, "Returns 10 times its method, and its call, together");
        for (int method = 0; method < 8; method++) {
            sum.cross();
        }
        int[] leads = {0, 2, 10, 12, 70, 71, 72};
        for (int lead : leads) {
            sum.does("lead", lead / 10, lead % 10);
        }
        sum.does("touch");
        for (int at = 0; at < leads.length; at++) {
            sum.is(leads[at], "leadAt", 0, at);
        }
    }

    private static void rows() {
        touchIsThere(Bounds.of(19, "if there is no such touch"), 2, "rows", 0);

        Run run = Bounds.of(19, "Returns how many rows a touch has");
        run.minor();
        run.method(6, 0);
        run.is(12, "rows", run.touch(0, "0"));
        run.is(1, "rows", run.touch(1, "0"));
        run.is(20, "rows", run.touch(1, "00000000000000000000"));
        run.is(240, "rows", run.touch(0, "00000000000000000000"));
    }

    private static void rowAt() {
        touchIsThere(Bounds.of(20, "`touch`: a touch"), 7, "rowAt", 0, 0);

        Run run = Bounds.of(20, "from the rows that are kept", "`row`: which one, from 0 on", "or row");
        longest(run);
        run.touch(run.cross(), "0");
        run.refusesBeyond(INDEX, 0, 239, 1, "rowAt", 0, 0);
        run.refusesBeyond(INDEX, 0, 0, 1, "rowAt", 1, 0);
        run.is(127, "rowAt", 0, 0);
        run.is(0, "rowAt", 0, 239);
        run.is(7, "rowAt", 1, 0);
    }

    private static void bellAt() {
        touchIsThere(Bounds.of(21, "`touch`: a touch"), 1, "bellAt", 0, 0, 0);

        Run row = Bounds.of(21, "with all rows written out anew from the changes", "`row`: which one, from 0 on");
        longest(row);
        row.touch(row.cross(), "0");
        row.refusesBeyond(INDEX, 0, 239, 1, "bellAt", 0, 0, 0);
        row.refusesBeyond(INDEX, 0, 0, 1, "bellAt", 1, 0, 0);
        row.is(1, "bellAt", 0, 0, 0);
        row.is(5, "bellAt", 0, 239, 5);
        row.is(2, "bellAt", 1, 0, 3);

        Run place = Bounds.of(21, "`place`: 0 to the stage less 1", "if there is no such touch, row or place");
        place.hunts();
        for (int touch = 0; touch < 3; touch++) {
            place.refusesBeyond(INDEX, 0, 3 + touch, 2, "bellAt", touch, 0, 0);
            place.is(1, "bellAt", touch, 0, 0);
            place.is(touch == 0 ? 2 : 4, "bellAt", touch, 0, 3 + touch);
        }
        place.refuses(INDEX, "bellAt", 4, 0, 0);
        place.refuses(INDEX, "bellAt", 0, 8, 0);
        place.refuses(INDEX, "bellAt", 4, 8, 4);
    }

    private static void isTrue() {
        touchIsThere(Bounds.of(22, "if there is no such touch"), 1, "isTrue", 0);

        Run run = Bounds.of(22, "Tells whether a touch is true")
                .also("Touches", "A touch is true if no two of its rows are the same");
        longest(run);
        run.is(1, "isTrue", 0);
        run.touch(0, LONGEST.substring(0, 19) + "0");
        run.is(1, "isTrue", 1);
        run.is(0, "comesRound", 1);
        run.touch(0, "00000000000000000000");
        run.is(0, "isTrue", 2);
        run.is(1, "comesRound", 2);
        run.touch(0, "00001000010000200000");
        run.is(0, "isTrue", 3);
        run.is(239, "firstRepeat", 3);
        // all 24 rows of four, and one more
        run.method(4, 0, 9, 0, 9, 0, 9, 0, 3);
        run.cross();
        run.is(1, "isTrue", run.touch(1, "000"));
        for (int lead = 0; lead < 4; lead++) {
            run.does("lead", lead < 3 ? 1 : 2, PLAIN);
        }
        run.is(0, "isTrue", run.does("touch"));
    }

    private static void comesRound() {
        touchIsThere(Bounds.of(23, "if there is no such touch"), 1, "comesRound", 0);

        Run run = Bounds.of(23, "Tells whether a touch comes round")
                .also("Touches", "it comes round if its last row is rounds");
        run.hunt();
        run.method(4, 0, 0);
        run.method(4, 0, 0, 9);
        run.is(0, "comesRound", run.touch(0, "000"));
        run.is(1, "comesRound", run.touch(0, "0000"));
        run.is(0, "comesRound", run.touch(0, "00000"));
        run.is(1, "comesRound", run.touch(1, "0"));
        run.is(0, "comesRound", run.touch(2, "0"));
        run.is(1, "comesRound", run.touch(2, "00"));
    }

    private static void firstRepeat() {
        touchIsThere(Bounds.of(24, "if there is no such touch"), NONE, "firstRepeat", 0);

        Run run = Bounds.of(24, "the first one that is the same as one ahead of it", "NONE if the touch is true");
        run.cross();
        run.method(4, 0, 9, 0, 9, 0, 9, 0, 3);
        run.method(4, 0, 9, 9, 0);
        run.is(NONE, "firstRepeat", run.touch(0, "00"));
        run.is(2, "firstRepeat", run.touch(0, "000"));
        run.is(2, "firstRepeat", run.touch(0, "0000"));
        run.is(2, "firstRepeat", run.touch(2, "0"));
        run.is(NONE, "firstRepeat", run.touch(1, "000"));
        run.is(24, "firstRepeat", run.touch(1, "0000"));
        run.is(24, "firstRepeat", run.touch(1, "000000"));
        for (int lead = 0; lead < 4; lead++) {
            run.does("lead", lead < 3 ? 1 : 0, PLAIN);
        }
        run.is(24, "firstRepeat", run.does("touch"));

        Run longest = Bounds.of(24, "Returns which one, from 0 on");
        longest(longest);
        longest.is(NONE, "firstRepeat", 0);
        // its last row alone was there before
        longest.is(239, "firstRepeat", longest.touch(0, "00001000010000200000"));
    }
}
