/** Promises 1 to 11, and the terms "Rows and changes" and "Methods and calls". */
final class MethodBounds {
    private static final String INDEX = Run.INDEX;
    private static final String ARGUMENT = Run.ARGUMENT;
    private static final String STATE = Run.STATE;
    private static final int NONE = GrandsireLoft.NONE;
    private static final int PLAIN = GrandsireLoft.PLAIN;
    private static final int BOB = GrandsireLoft.BOB;
    private static final int SINGLE = GrandsireLoft.SINGLE;

    private MethodBounds() {
    }

    static void all() {
        terms();
        newObject();
        change();
        dropChanges();
        methodOfADraft();
        methodsAreAtMostEight();
        setCall();
        setCallTakesAChangeOfItsStage();
        setCallInARinging();
        numbersOfMethods();
        changeAt();
        head();
        rowsOfAStage();
        manyFalseRows();
    }

    private static void terms() {
        bells();
        stageOfARow();
        rounds();
        numberOfARow();
        greatestNumberOfARow();
        setOfPlaces();
        placesBelowTheStage();
        notAllPlaces();
        evenNumberOfPlaces();
        swaps();
        lengthOfALead();
        changeOfACall();
        plainLead();
        headOfALead();
        course();
        rowWithWhichALeadBegins();
        roundsAreNeverFalse();
    }

    private static void rowIs(Run run, String bells, int touch, int row) {
        for (int place = 0; place < bells.length(); place++) {
            run.is(bells.charAt(place) - '0', "bellAt", touch, row, place);
        }
    }

    // ---- rows and changes

    private static void bells() {
        Run run = Bounds.of("Rows and changes", "The bells are 0 to 5");
        run.refusesBeyond(INDEX, 0, 5, 0, "isIn", 0);
        for (int bell = 0; bell <= 5; bell++) {
            run.is(1, "isIn", bell);
        }
    }

    private static void stageOfARow() {
        Run run = Bounds.of("Rows and changes", "The stage of a row is 4, 5 or 6");
        run.hunts();
        String[] rows = {"1032", "10324", "103254"};
        for (int touch = 0; touch < 3; touch++) {
            rowIs(run, rows[touch], touch, 0);
            run.refusesBeyond(INDEX, 0, 3 + touch, 2, "bellAt", touch, 0, 0);
        }
        run.does("change", 0);
        run.refuses(ARGUMENT, "method", 3);
        run.refuses(ARGUMENT, "method", 7);
    }

    private static void rounds() {
        Run run = Bounds.of("Rows and changes", "In rounds each bell is at the place of its number");
        run.hunts();
        rowIs(run, "0123", 0, 7);
        rowIs(run, "01234", 1, 9);
        rowIs(run, "012345", 2, 11);
        rowIs(run, "0213", 0, 6);
        run.is(1, "comesRound", 2);
        run.is(0, "rowAt", 2, 11);
    }

    private static void numberOfARow() {
        Run run = Bounds.of("Rows and changes", "how many rows of its stage are less than it");
        run.touch(run.method(4, 0, 9, 0, 9, 0, 9, 0, 3), "000");
        // a plain course of the minimus has each row of four once
        String[] rows = {
            "1032", "1302", "3120", "3210", "2301", "2031", "0213", "0231",
            "2013", "2103", "1230", "1320", "3102", "3012", "0321", "0312",
            "3021", "3201", "2310", "2130", "1203", "1023", "0132", "0123",
        };
        for (int row = 0; row < rows.length; row++) {
            int lesser = 0;
            for (String other : rows) {
                lesser += other.compareTo(rows[row]) < 0 ? 1 : 0;
            }
            run.is(lesser, "rowAt", 0, row);
            rowIs(run, rows[row], 0, row);
        }
    }

    private static void greatestNumberOfARow() {
        Run run = Bounds.of("Rows and changes", "so the number of rounds is 0");
        run.hunts();
        run.is(23, "rowAt", 0, 3);
        run.is(119, "rowAt", 1, 4);
        run.is(719, "rowAt", 2, 5);
        for (int touch = 0; touch < 3; touch++) {
            run.is(0, "rowAt", touch, 7 + 2 * touch);
        }
        run.is(2, "rowAt", 0, 6);
        run.touch(run.method(4, 3), "0");
        run.is(1, "rowAt", 4, 0);
        run.touch(run.method(5, 7), "0");
        run.is(1, "rowAt", 5, 0);
        run.touch(run.method(6, 15), "0");
        run.is(1, "rowAt", 6, 0);
    }

    private static void setOfPlaces() {
        Run run = Bounds.of("Rows and changes", "the place p counts 2 to the power of p");
        String[] rows = {"103254", "021435", "102435", "102345", "013245", "012354", "013254"};
        int[] sets = {0, 1 + 32, 4 + 32, 4 + 8 + 16 + 32, 1 + 2 + 16 + 32, 1 + 2 + 4 + 8, 1 + 2};
        for (int at = 0; at < sets.length; at++) {
            rowIs(run, rows[at], run.touch(run.method(6, sets[at]), "0"), 0);
        }
    }

    private static void changesAre(Run run, int stage, int[] changes, int[] others) {
        for (int places : changes) {
            run.does("change", places);
            run.does("method", stage);
        }
        for (int places : others) {
            run.does("change", places);
            run.refuses(STATE, "method", stage);
            run.is(1, "dropChanges");
        }
    }

    private static void placesBelowTheStage() {
        Run run = Bounds.of("Rows and changes", "if all places that are made are below n");
        changesAre(run, 4, new int[] {9, 12}, new int[] {16, 32, 48, 16 + 9, 32 + 12});
        changesAre(run, 5, new int[] {16, 28}, new int[] {32, 32 + 1, 32 + 16});
        changesAre(run, 6, new int[] {48, 33}, new int[] {});
    }

    private static void notAllPlaces() {
        Run run = Bounds.of("Rows and changes", "not all n are made");
        changesAre(run, 4, new int[] {3, 9}, new int[] {15});
        changesAre(run, 5, new int[] {7, 25}, new int[] {31});
        changesAre(run, 6, new int[] {15, 57}, new int[] {63});
    }

    private static void evenNumberOfPlaces() {
        Run run = Bounds.of("Rows and changes", "has an even number of places");
        changesAre(run, 4, new int[] {0, 12}, new int[] {1, 2, 4, 5, 6, 7, 8, 10, 11, 13, 14});
        changesAre(run, 5, new int[] {4, 19}, new int[] {0, 2, 8, 3, 9, 24, 10, 11, 15, 21, 30});
        changesAre(run, 6, new int[] {0, 36, 39, 51}, new int[] {1, 5, 30, 31, 45, 32, 27, 47, 62, 18, 10});
    }

    private static void swaps() {
        Run run = Bounds.of("Rows and changes", "the first and the second place of such a row are swapped");
        int[] changes = {0, 33, 3, 48, 12, 57};
        String[] rows = {"103254", "021435", "013254", "103245", "102354", "021345"};
        for (int at = 0; at < changes.length; at++) {
            rowIs(run, rows[at], run.touch(run.method(6, changes[at]), "0"), 0);
        }
        rowIs(run, "02143", run.touch(run.method(5, 1), "0"), 0);
        rowIs(run, "0213", run.touch(run.method(4, 9), "0"), 0);
    }

    // ---- methods and calls

    private static void lengthOfALead() {
        Run run = Bounds.of("Methods and calls", "a lead, which is 1 to 12 changes of that stage");
        run.refuses(STATE, "method", 4);
        run.does("change", 0);
        run.is(0, "method", 4);
        run.is(0, "changeAt", 0, PLAIN, 0);
        run.is(NONE, "changeAt", 0, PLAIN, 1);
        for (int count = 1; count <= 12; count++) {
            run.does("change", count % 2 == 0 ? 33 : 0);
        }
        run.refuses(STATE, "change", 0);
        run.is(1, "method", 6);
        run.is(33, "changeAt", 1, PLAIN, 11);
        run.is(NONE, "changeAt", 1, PLAIN, 12);
        run.is(4, "stage", 0);
        run.is(6, "stage", 1);
        run.refuses(STATE, "method", 6);
    }

    private static void changeOfACall() {
        Run run = Bounds.of("Methods and calls", "which stands in place of the last one of the lead");
        run.cross();
        run.minor();
        for (int call = BOB; call <= SINGLE; call++) {
            run.is(0, "changeAt", 0, call, 0);
            run.is(0, "changeAt", 1, call, 10);
            run.is(3, "changeAt", 1, call, 11);
        }
        run.is(0, "setCall", 0, BOB, 9);
        run.is(3, "setCall", 1, SINGLE, 15);
        run.is(9, "changeAt", 0, BOB, 0);
        run.is(0, "changeAt", 0, SINGLE, 0);
        run.is(2, "head", 0, BOB);
        run.is(7, "head", 0, SINGLE);
        run.is(0, "changeAt", 1, SINGLE, 10);
        run.is(15, "changeAt", 1, SINGLE, 11);
        run.is(3, "changeAt", 1, BOB, 11);
        run.is(NONE, "changeAt", 1, SINGLE, 12);
    }

    private static void plainLead() {
        Run run = Bounds.of("Methods and calls", "With the call PLAIN the lead is as it is");
        run.cross();
        run.does("setCall", 0, BOB, 9);
        run.does("setCall", 0, SINGLE, 3);
        run.is(0, "changeAt", 0, PLAIN, 0);
        run.is(7, "head", 0, PLAIN);
        run.is(2, "course", 0);
        run.touch(0, "01");
        run.is(7, "rowAt", 0, 0);
        run.is(10, "rowAt", 0, 1);
        run.refuses(ARGUMENT, "setCall", 0, PLAIN, 9);
    }

    private static void headOfALead() {
        Run run = Bounds.of("Methods and calls", "The head of a lead is the row to which it leads from rounds");
        int[] heads = {
            run.method(4, 0, 0), 0, run.method(4, 3), 1, run.method(4, 0, 9, 0, 9), 23,
            run.method(5, 16, 1, 16, 1, 16), 119, run.method(6, 0, 33, 0, 33, 0, 33), 719, run.method(6, 15), 1,
        };
        for (int at = 0; at < heads.length; at += 2) {
            run.is(heads[at + 1], "head", heads[at], PLAIN);
        }
    }

    private static void course() {
        Run run = Bounds.of("Methods and calls", "The course of a method is the least number of leads, above 0");
        int[] courses = {
            run.method(4, 0, 0), 1, run.method(5, 16, 16), 1, run.cross(), 2, run.method(4, 0, 9, 0, 9, 0, 9, 0, 3), 3,
            run.hunt(), 4, run.huntOfFive(), 5, run.huntOfSix(), 6,
        };
        for (int at = 0; at < courses.length; at += 2) {
            run.is(courses[at + 1], "course", courses[at]);
        }
        // one lead less does not come round, that many do
        for (int at = 0; at < courses.length; at += 2) {
            String leads = "000000".substring(0, courses[at + 1]);
            run.is(1, "comesRound", run.touch(courses[at], leads));
            if (leads.length() > 1 && leads.length() < 5) {
                run.is(0, "comesRound", run.touch(courses[at], leads.substring(1)));
            }
        }
    }

    private static void rowWithWhichALeadBegins() {
        Run run = Bounds.of("Methods and calls", "the row with which it begins not counted");
        run.cross();
        run.method(4, 0, 0);
        // from 1032 the first has 0123 alone, the second 0123 and 1032; from rounds 1032, and 1032 and 0123
        run.is(0, "isFalse", 0, 7);
        run.is(0, "falseRows", 0);
        run.is(1, "isFalse", 1, 7);
        run.is(1, "falseRows", 1);
        run.touch(0, "0");
        run.touch(1, "0");
        run.is(1, "rows", 0);
        run.is(2, "rows", 1);
    }

    private static void roundsAreNeverFalse() {
        Run run = Bounds.of("Methods and calls", "A row of the stage is false for a method, if it is not rounds");
        run.hunt();
        run.method(4, 0, 0);
        int told = 0;
        for (int row = 0; row <= 23; row++) {
            // 1032 and 1302 are had from rounds: from 3120 the rows are 1302 and 1032
            run.is(row == 21 ? 1 : 0, "isFalse", 0, row);
            told += run.does("isFalse", 1, row);
        }
        run.is(told, "falseRows", 1);
        run.is(0, "isFalse", 1, 0);
        run.is(1, "isFalse", 1, 7);
    }

    // ---- promises

    private static void newObject() {
        Run run = Bounds.of(1, "No methods and touches, all bells in, nothing planned");
        run.refuses(INDEX, "stage", 0);
        run.refuses(INDEX, "leads", 0);
        run.is(0, "touches");
        run.is(0, "dropChanges");
        run.is(0, "dropLeads");
        for (int bell = 0; bell <= 5; bell++) {
            run.is(1, "isIn", bell);
        }
        for (int day = 0; day <= 60; day++) {
            run.is(0, "planned", day);
        }
        run.is(0, "today");
        Run first = Bounds.of(1, "No methods");
        first.does("change", 0);
        first.is(0, "method", 4);
        first.is(4, "stage", 0);
        first.refuses(INDEX, "stage", 1);
    }

    private static void change() {
        Run range = Bounds.of(2, "`places`: 0 to 63", "if places is out of range");
        range.refusesBeyond(ARGUMENT, 0, 63, 0, "change", 0);
        range.is(1, "change", 0);
        range.is(2, "change", 63);
        range.refusesBeyond(ARGUMENT, 0, 63, 0, "change", 0);
        range.is(2, "dropChanges");

        Run full = Bounds.of(2, "if it has 12", "Returns how many the draft has then");
        for (int count = 1; count <= 12; count++) {
            full.is(count, "change", 0);
        }
        full.refuses(STATE, "change", 0);
        full.refuses(STATE, "change", 63);
        full.is(12, "dropChanges");
        full.is(1, "change", 0);

        Run made = Bounds.of(2, "Adds a change to the draft of a lead");
        for (int count = 1; count <= 12; count++) {
            made.is(count, "change", count == 12 ? 3 : count == 1 ? 12 : 0);
        }
        made.refuses(STATE, "change", 9);
        made.is(0, "method", 4);
        made.is(12, "changeAt", 0, PLAIN, 0);
        made.is(0, "changeAt", 0, PLAIN, 1);
        made.is(3, "changeAt", 0, PLAIN, 11);
        made.is(1, "change", 9);
    }

    private static void dropChanges() {
        Run run = Bounds.of(3, "Drops the draft of a lead; returns how many changes it had");
        run.is(0, "dropChanges");
        run.does("change", 0);
        run.is(1, "dropChanges");
        run.is(0, "dropChanges");
        for (int count = 1; count <= 12; count++) {
            run.does("change", 9);
        }
        run.is(12, "dropChanges");
        run.is(0, "dropChanges");
        run.refuses(STATE, "method", 4);
        run.is(1, "change", 3);
        run.is(0, "method", 4);
        run.is(3, "changeAt", 0, PLAIN, 0);
        run.is(NONE, "changeAt", 0, PLAIN, 1);
        run.is(0, "dropChanges");
    }

    private static void methodOfADraft() {
        Run empty = Bounds.of(4, "Makes a method of the draft, which is empty then", "if the draft is empty");
        for (int stage = 4; stage <= 6; stage++) {
            empty.refuses(STATE, "method", stage);
        }
        empty.does("change", 0);
        empty.is(0, "method", 4);
        empty.refuses(STATE, "method", 4);
        empty.is(0, "dropChanges");
        empty.refuses(INDEX, "stage", 1);

        Run range = Bounds.of(4, "`stage`: 4 to 6", "if stage is out of range");
        range.refusesBeyond(ARGUMENT, 4, 6, 0, "method", 0);
        range.does("change", 0);
        range.refusesBeyond(ARGUMENT, 4, 6, 0, "method", 0);
        range.is(0, "method", 4);
        range.does("change", 1);
        range.is(1, "method", 5);
        range.does("change", 0);
        range.is(2, "method", 6);

        Run first = Bounds.of(4, "or has what is no change of the stage");
        first.does("change", 16);
        first.does("change", 1);
        first.refuses(STATE, "method", 4);
        first.refuses(STATE, "method", 6);
        first.is(0, "method", 5);
        int[][] drafts = {{1, 0, 9}, {0, 1, 9}, {0, 9, 1}, {15, 0, 9}, {0, 9, 63}};
        for (int[] draft : drafts) {
            for (int places : draft) {
                first.does("change", places);
            }
            first.refuses(STATE, "method", 4);
            first.is(3, "dropChanges");
        }
    }

    private static void methodsAreAtMostEight() {
        Run run = Bounds.of(4, "Returns its number", "or there are 8 methods")
                .also("Methods and calls", "Methods are numbered from 0, at most 8");
        run.refuses(INDEX, "stage", 0);
        for (int number = 0; number < 8; number++) {
            run.does("change", 0);
            run.is(number, "method", number % 2 == 0 ? 4 : 6);
        }
        run.does("change", 0);
        run.refuses(STATE, "method", 4);
        run.refuses(STATE, "method", 6);
        run.is(6, "stage", 7);
        run.refuses(INDEX, "stage", 8);
        run.is(1, "dropChanges");
        run.refuses(STATE, "method", 4);
    }

    private static void setCall() {
        Run method = Bounds.of(5, "`method`: a method", "if there is no such method");
        method.refuses(INDEX, "setCall", 0, BOB, 9);
        method.cross();
        method.refusesBeyond(INDEX, 0, 0, 0, "setCall", 0, BOB, 9);
        for (int count = 1; count < 8; count++) {
            method.cross();
        }
        method.refusesBeyond(INDEX, 0, 7, 0, "setCall", 0, BOB, 9);
        method.is(0, "setCall", 0, BOB, 9);
        method.is(0, "setCall", 7, BOB, 9);
        method.is(0, "changeAt", 6, BOB, 0);

        Run call = Bounds.of(5, "`call`: BOB or SINGLE", "if call is out of range");
        call.cross();
        call.refusesBeyond(ARGUMENT, BOB, SINGLE, 1, "setCall", 0, BOB, 9);
        call.is(0, "setCall", 0, BOB, 9);
        call.is(0, "setCall", 0, SINGLE, 3);
        call.refusesBeyond(ARGUMENT, BOB, SINGLE, 1, "setCall", 0, BOB, 0);

        Run before = Bounds.of(5, "Sets the change of a call", "Returns the change before");
        before.minor();
        before.is(3, "setCall", 0, BOB, 0);
        before.is(0, "setCall", 0, BOB, 0);
        before.is(0, "setCall", 0, BOB, 60);
        before.is(60, "setCall", 0, BOB, 3);
        before.is(3, "setCall", 0, SINGLE, 15);
        before.is(15, "changeAt", 0, SINGLE, 11);
        before.is(3, "changeAt", 0, BOB, 11);
    }

    private static void setCallTakesAChangeOfItsStage() {
        Run run = Bounds.of(5, "`places`: a change of its stage", "or places is no change of the stage");
        int[][] changes = {{0, 3, 9, 12}, {1, 4, 7, 16, 19, 25, 28}, {0, 3, 9, 12, 15, 33, 36, 39, 48, 51, 57, 60}};
        for (int stage = 4; stage <= 6; stage++) {
            int[] own = changes[stage - 4];
            int method = run.method(stage, own[0]);
            for (int at = 0; at < own.length; at++) {
                run.is(own[Math.max(0, at - 1)], "setCall", method, SINGLE, own[at]);
            }
            int all = (1 << stage) - 1;
            for (int places : new int[] {-1, 2, 5, 8, all, all + 1, 63, 64, 128 + own[0], Integer.MIN_VALUE}) {
                run.refuses(ARGUMENT, "setCall", method, SINGLE, places);
            }
            run.refuses(ARGUMENT, "setCall", method, SINGLE, Integer.MIN_VALUE + own[0]);
            run.refuses(ARGUMENT, "setCall", method, SINGLE, Integer.MAX_VALUE);
            run.is(own[own.length - 1], "changeAt", method, SINGLE, 0);
        }
        run.refuses(ARGUMENT, "setCall", 0, BOB, 33);
        run.refuses(ARGUMENT, "setCall", 1, BOB, 0);
        run.refuses(ARGUMENT, "setCall", 2, BOB, 1);
    }

    private static void setCallInARinging() {
        Run run = Bounds.of(5, "Throws `IllegalStateException` if a ringing is on");
        run.hunts();
        run.does("plan", 0, 0);
        run.is(9, "setCall", 0, BOB, 0);
        run.is(0, "ring", 0, 1, 100);
        run.refuses(STATE, "setCall", 0, BOB, 9);
        run.refuses(STATE, "setCall", 1, SINGLE, 4);
        run.is(0, "stand");
        run.is(0, "setCall", 0, BOB, 9);
        run.is(0, "ring", 0, 1, 100);
        run.refuses(STATE, "setCall", 0, BOB, 3);
        run.pullsOnTime(0, 7);
        run.refuses(STATE, "setCall", 0, BOB, 3);
        run.pullsOnTime(0, 1);
        run.is(9, "setCall", 0, BOB, 3);
    }

    private static void numbersOfMethods() {
        methodIsThere(Bounds.of(6, "Returns the stage of a method", "if there is no such method"), 4, "stage", 0);
        methodIsThere(Bounds.of(7, "`method`: a method", "if there is no such method"), 0, "changeAt", 0, PLAIN, 0);
        methodIsThere(Bounds.of(8, "`method`: a method", "if there is no such method"), 7, "head", 0, PLAIN);
        methodIsThere(Bounds.of(9, "Returns the course of a method", "if there is no such method"), 2, "course", 0);
        methodIsThere(Bounds.of(10, "`method`: a method", "if there is no such method"), 0, "isFalse", 0, 7);
        methodIsThere(Bounds.of(11, "Returns how many rows", "if there is no such method"), 0, "falseRows", 0);
    }

    /** A call whose first argument is a method is refused for methods that are not there, with 0, 1 and 8 of them. */
    static void methodIsThere(Run run, long due, String name, int... arguments) {
        run.refuses(INDEX, name, arguments);
        run.cross();
        run.refusesBeyond(INDEX, 0, 0, 0, name, arguments);
        for (int count = 1; count < 8; count++) {
            run.cross();
        }
        run.refusesBeyond(INDEX, 0, 7, 0, name, arguments);
        int[] last = arguments.clone();
        last[0] = 7;
        run.is(due, name, arguments);
        run.is(due, name, last);
    }

    private static void changeAt() {
        Run call = Bounds.of(7, "Returns a change of a lead", "`call`: PLAIN to SINGLE", "if call is out of range");
        call.hunt();
        call.does("setCall", 0, BOB, 3);
        call.does("setCall", 0, SINGLE, 12);
        call.refusesBeyond(ARGUMENT, PLAIN, SINGLE, 1, "changeAt", 0, 0, 0);
        call.refusesBeyond(ARGUMENT, PLAIN, SINGLE, 1, "changeAt", 0, 0, 2);
        call.is(9, "changeAt", 0, PLAIN, 1);
        call.is(3, "changeAt", 0, BOB, 1);
        call.is(12, "changeAt", 0, SINGLE, 1);

        Run place = Bounds.of(7, "`place`: 0 for the first change", "NONE if the lead has not so many",
                "or place is below 0");
        place.method(4, 12);
        place.method(4, 12, 9);
        place.method(6, 3, 0, 33, 0, 33, 0, 33, 0, 33, 0, 33, 48);
        int[] lengths = {1, 2, 12};
        int[] lasts = {12, 9, 48};
        for (int method = 0; method < 3; method++) {
            place.refuses(INDEX, "changeAt", method, PLAIN, -1);
            place.refuses(INDEX, "changeAt", method, PLAIN, Integer.MIN_VALUE);
            place.is(method == 2 ? 3 : 12, "changeAt", method, PLAIN, 0);
            place.is(lasts[method], "changeAt", method, PLAIN, lengths[method] - 1);
            place.is(NONE, "changeAt", method, PLAIN, lengths[method]);
            place.is(NONE, "changeAt", method, SINGLE, lengths[method]);
            place.is(NONE, "changeAt", method, PLAIN, 12);
            place.is(NONE, "changeAt", method, BOB, Integer.MAX_VALUE);
        }
    }

    private static void head() {
        Run run = Bounds.of(8, "Returns the number of the head of a lead", "`call`: PLAIN to SINGLE",
                "if call is out of range");
        run.cross();
        run.does("setCall", 0, BOB, 9);
        run.does("setCall", 0, SINGLE, 3);
        run.refusesBeyond(ARGUMENT, PLAIN, SINGLE, 1, "head", 0, 0);
        run.is(7, "head", 0, PLAIN);
        run.is(2, "head", 0, BOB);
        run.is(1, "head", 0, SINGLE);
    }

    private static void rowsOfAStage() {
        Run run = Bounds.of(10, "Tells whether a row is false for a method", "`row`: the number of a row of its stage",
                "if there is no such method, or row");
        run.method(4, 0, 9, 0, 9, 9, 0, 9, 0);
        run.method(5, 16, 1, 16, 1, 16, 16, 1, 16, 1, 16);
        run.method(6, 0, 33, 0, 33, 0, 33, 33, 0, 33, 0, 33, 0);
        int[] greatest = {23, 119, 719};
        for (int method = 0; method < 3; method++) {
            run.refusesBeyond(INDEX, 0, greatest[method], 1, "isFalse", method, 0);
            run.is(0, "isFalse", method, 0);
            // each lead goes from rounds to their reverse and back, so both are in the lead from the reverse
            run.is(1, "isFalse", method, greatest[method]);
        }
        run.is(0, "isFalse", 1, 24);
        run.is(0, "isFalse", 2, 120);
    }

    private static void manyFalseRows() {
        Run run = Bounds.of(11, "Returns how many rows are false for a method");
        run.is(0, "falseRows", run.cross());
        run.is(1, "falseRows", run.hunt());
        // of four bells, each row but rounds
        run.is(23, "falseRows", run.method(4, 3, 12, 0, 12, 9, 3, 12, 12, 9, 12, 9, 0));
        for (int row = 0; row < 24; row++) {
            run.is(row == 0 ? 0 : 1, "isFalse", 2, row);
        }
        run.is(87, "falseRows", run.method(5, 28, 25, 19, 7, 19, 25, 4, 25, 16, 1, 16, 7));
        int told = 0;
        for (int row = 0; row < 120; row++) {
            told += run.does("isFalse", 3, row);
        }
        run.is(told, "falseRows", 3);
        run.is(109, "falseRows", run.method(6, 3, 12, 0, 12, 9, 3, 33, 15, 36, 57, 48, 39));
    }
}
