/** The first sentences of the document, and those of its terms that hold for all calls. */
final class TermBounds {
    private static final String INDEX = Run.INDEX;
    private static final String ARGUMENT = Run.ARGUMENT;
    private static final String STATE = Run.STATE;
    private static final int PLAIN = GrandsireLoft.PLAIN;
    private static final int BOB = GrandsireLoft.BOB;
    private static final int ROPE = GrandsireLoft.ROPE;

    private TermBounds() {
    }

    static void all() {
        mostCalls();
        rowsAreToldTwice();
        whatIsNotThere();
        whatIsOutOfRange();
        whatTheStateRefuses();
        whatIsThrownFirstAtRest();
        whatIsThrownFirstWhenFull();
        whatIsThrownFirstInARinging();
        refusedCallsChangeNothing();
        acceptedCallsAreSeen();
        withoutABoundary();
    }

    private static void mostCalls() {
        Run run = Bounds.of("What it is", "An object is used for at most 512 calls");
        TouchBounds.longest(run);
        run.does("plan", 0, 0);
        run.is(0, "ring", 0, 32, 100);
        for (int row = 0; row < 199; row++) {
            run.does("pull", 5, 0);
        }
        while (run.callsLeft() > 2) {
            run.is(199, "done");
        }
        // the 511th call wears the bells out, the 512th tells of it
        run.does("pull", 5, 0);
        run.is(1, "dropped");
    }

    private static void rowsAreToldTwice() {
        Run run = Bounds.of("Terms", "Rows are told from what is kept, and once more from the changes");
        run.hunts();
        run.does("setCall", 1, BOB, 4);
        run.touch(1, "0101");
        int[] rows = {8, 10, 12, 8, 8};
        for (int touch = 0; touch < 5; touch++) {
            int stage = run.does("stage", touch == 4 ? 1 : touch % 3);
            for (int row = 0; row < rows[touch]; row += touch == 4 ? 1 : rows[touch] - 1) {
                int[] bells = new int[stage];
                for (int place = 0; place < stage; place++) {
                    bells[place] = run.does("bellAt", touch, row, place);
                }
                run.is(number(bells), "rowAt", touch, row);
            }
        }
    }

    private static int number(int[] bells) {
        int number = 0;
        for (int place = 0; place < bells.length; place++) {
            int lesserBehind = 0;
            for (int behind = place + 1; behind < bells.length; behind++) {
                lesserBehind += bells[behind] < bells[place] ? 1 : 0;
            }
            number = number * (bells.length - place) + lesserBehind;
        }
        return number;
    }

    private static void whatIsNotThere() {
        Run run = Bounds.of("Terms", "IndexOutOfBoundsException: there is no such method");
        run.hunts();
        run.does("plan", 0, 0);
        run.refuses(INDEX, "stage", 3);
        run.is(6, "stage", 2);
        run.refuses(INDEX, "rows", 4);
        run.is(8, "rows", 3);
        run.refuses(INDEX, "late", 6);
        run.is(0, "late", 5);
        run.refuses(INDEX, "setBand", 4, 6);
        run.is(6, "setBand", 3, 6);
        run.refuses(INDEX, "rowAt", 0, 8);
        run.is(0, "rowAt", 0, 7);
        run.refuses(INDEX, "isFalse", 0, 24);
        run.is(0, "isFalse", 0, 23);
        run.refuses(INDEX, "leadAt", 0, 4);
        run.is(0, "leadAt", 0, 3);
        run.refuses(INDEX, "bellAt", 0, 7, 4);
        run.is(3, "bellAt", 0, 7, 3);
        run.refuses(INDEX, "plannedAt", 0, 1);
        run.is(0, "plannedAt", 0, 0);
        run.refuses(INDEX, "changeAt", 0, PLAIN, -1);
        run.is(0, "changeAt", 0, PLAIN, 0);
    }

    private static void whatIsOutOfRange() {
        Run run = Bounds.of("Terms", "IllegalArgumentException: another argument is out of its range");
        run.hunts();
        run.refusesBeyond(ARGUMENT, 0, 63, 0, "change", 0);
        run.refusesBeyond(ARGUMENT, 4, 6, 0, "method", 4);
        run.refusesBeyond(ARGUMENT, 1, 2, 1, "setCall", 0, BOB, 9);
        run.refusesBeyond(ARGUMENT, 0, 2, 1, "lead", 0, PLAIN);
        run.refusesBeyond(ARGUMENT, 1, 6, 1, "compose", 0, 4);
        run.refusesBeyond(ARGUMENT, 0, 1, 1, "wear", 0, ROPE);
        run.refusesBeyond(ARGUMENT, 4, 6, 1, "setBand", 0, 6);
        run.refusesBeyond(ARGUMENT, 0, 60, 0, "plan", 0, 0);
        run.refusesBeyond(ARGUMENT, 0, 15, 1, "ring", 0, 0, 100);
        run.refusesBeyond(ARGUMENT, 100, 1000, 2, "ring", 0, 0, 100);
        run.refusesBeyond(ARGUMENT, 0, 2000000000, 1, "pull", 0, 0);
        run.refusesBeyond(ARGUMENT, 0, 1000, 0, "setPatience", 0);
    }

    private static void whatTheStateRefuses() {
        Run run = Bounds.of("Terms", "IllegalStateException: as the method tells");
        run.refuses(STATE, "method", 4);
        run.refuses(STATE, "touch");
        run.refuses(STATE, "bringIn", 0);
        run.refuses(STATE, "stand");
        run.refuses(STATE, "pull", 0, 0);
        run.refuses(STATE, "due", 0);
        run.rings(0, 1, 100);
        run.refuses(STATE, "setCall", 0, BOB, 9);
        run.refuses(STATE, "takeOut", 0);
        run.refuses(STATE, "mend", 0, ROPE);
        run.refuses(STATE, "plan", 0, 0);
        run.refuses(STATE, "pass");
        run.refuses(STATE, "ring", 0, 0, 100);
    }

    private static Run first() {
        return Bounds.of("Terms", "If several apply, the one that the throws clause names first is thrown");
    }

    private static void whatIsThrownFirstAtRest() {
        Run run = first();
        run.refuses(ARGUMENT, "method", 3);
        run.refuses(INDEX, "setCall", 0, 0, -1);
        run.refuses(INDEX, "changeAt", 0, 3, -1);
        run.refuses(INDEX, "changeAt", -1, -1, 0);
        run.refuses(INDEX, "head", 0, 3);
        run.refuses(INDEX, "isFalse", 0, -1);
        run.refuses(INDEX, "lead", 0, 3);
        run.refuses(INDEX, "compose", 0, 0);
        run.refuses(INDEX, "bringIn", 6);
        run.refuses(INDEX, "mend", 6, 2);
        run.refuses(INDEX, "wear", -1, 2);
        run.refuses(INDEX, "setBand", 4, 3);
        run.refuses(INDEX, "plan", 61, 0);
        run.refuses(ARGUMENT, "plannedAt", 61, 0);
        run.refuses(ARGUMENT, "plannedAt", -1, -1);
        run.refuses(INDEX, "plannedAt", 60, 0);
        run.refuses(INDEX, "ring", 0, -1, 0);
        run.refuses(INDEX, "pull", 6, -1);
        run.refuses(ARGUMENT, "pull", 5, -1);
        run.refuses(INDEX, "due", 6);
        run.hunts();
        run.touch(0, "000");
        run.does("takeOut", 4);
        run.refuses(INDEX, "changeAt", 0, 3, -1);
        run.refuses(ARGUMENT, "changeAt", 0, 3, 2);
        run.refuses(INDEX, "isFalse", 3, 24);
        run.refuses(INDEX, "takeOut", 6);
        run.refuses(INDEX, "plan", 61, 5);
        run.refuses(ARGUMENT, "plan", 61, 4);
        run.refuses(ARGUMENT, "plan", -1, 1);
        run.refuses(STATE, "plan", 60, 4);
        run.refuses(STATE, "plan", 0, 1);
        run.refuses(ARGUMENT, "ring", 0, 16, 100);
        run.refuses(ARGUMENT, "ring", 0, 0, 1001);
        run.refuses(STATE, "ring", 0, 0, 1000);
    }

    private static void whatIsThrownFirstWhenFull() {
        Run run = first();
        run.hunt();
        for (int count = 1; count < 8; count++) {
            run.does("change", 0);
            run.does("method", 6);
        }
        for (int count = 0; count < 12; count++) {
            run.touch(0, "0");
            run.does("change", count);
        }
        run.refuses(ARGUMENT, "change", 64);
        run.refuses(STATE, "change", 63);
        run.refuses(ARGUMENT, "method", 7);
        run.refuses(STATE, "method", 6);
        for (int count = 0; count < 20; count++) {
            run.does("lead", 0, PLAIN);
        }
        run.refuses(INDEX, "lead", 8, 3);
        run.refuses(ARGUMENT, "lead", 0, 3);
        run.refuses(ARGUMENT, "lead", 1, -1);
        run.refuses(STATE, "lead", 1, PLAIN);
        run.refuses(STATE, "touch");
        run.refuses(INDEX, "compose", 8, 7);
        run.refuses(ARGUMENT, "compose", 0, 7);
        run.refuses(STATE, "compose", 0, 4);
    }

    private static void whatIsThrownFirstInARinging() {
        Run run = first();
        run.rings(0, 1, 100);
        run.refuses(INDEX, "setCall", 3, 0, 5);
        run.refuses(ARGUMENT, "setCall", 0, PLAIN, 9);
        run.refuses(ARGUMENT, "setCall", 0, BOB, 5);
        run.refuses(STATE, "setCall", 0, BOB, 9);
        run.refuses(INDEX, "takeOut", -1);
        run.refuses(STATE, "takeOut", 5);
        run.refuses(INDEX, "mend", 6, 2);
        run.refuses(ARGUMENT, "mend", 5, 2);
        run.refuses(STATE, "mend", 5, ROPE);
        run.refuses(INDEX, "ring", 4, 16, 99);
        run.refuses(ARGUMENT, "ring", 0, 16, 100);
        run.refuses(ARGUMENT, "ring", 1, 0, 99);
        run.refuses(STATE, "ring", 1, 16, 100);
        run.refuses(INDEX, "pull", 6, -1);
        run.refuses(ARGUMENT, "pull", 1, -1);
        run.refuses(ARGUMENT, "pull", 0, 2000000001);
        run.refuses(STATE, "pull", 1, 0);
        run.refuses(INDEX, "due", 6);
        run.refuses(STATE, "due", 5);
    }

    private static void refusedCallsChangeNothing() {
        Run run = Bounds.of("Terms", "A call that throws an exception changes nothing");
        run.rings(0, 3, 100);
        run.does("change", 9);
        run.does("lead", 0, BOB);
        run.pulls(0, 500);
        run.refuses(STATE, "ring", 1, 0, 100);
        run.refuses(STATE, "pull", 2, 0);
        run.refuses(ARGUMENT, "pull", 0, -1);
        run.refuses(STATE, "pass");
        run.refuses(STATE, "takeOut", 1);
        run.refuses(STATE, "setCall", 0, BOB, 3);
        run.refuses(STATE, "method", 5);
        run.refuses(STATE, "lead", 1, PLAIN);
        run.refuses(STATE, "plan", 0, 0);
        run.refuses(ARGUMENT, "setPatience", 1001);
        run.is(0, "done");
        run.is(300, "delay");
        run.is(1, "late", 0);
        run.is(500, "errors", 0);
        run.is(1, "wear", 0, ROPE);
        run.is(1, "dropChanges");
        run.is(1, "dropLeads");
        run.is(4, "planned", 0);
        run.is(200, "setPatience", 200);
    }

    /** What is shown to have changed nothing is worth as much as what is seen of a change. */
    private static void acceptedCallsAreSeen() {
        Run run = Bounds.of("Terms", "A call that throws an exception changes nothing");
        run.sees("change", 0);
        run.sees("setPatience", 199);
        run.sees("setBand", 3, 5);
        run.sees("pass");
        run.sees("takeOut", 5);
        run.does("change", 0);
        run.sees("dropChanges");
        run.sees("method", 4);
        run.does("method", 4);
        run.sees("setCall", 0, BOB, 9);
        run.sees("lead", 0, BOB);
        run.does("lead", 0, BOB);
        run.sees("dropLeads");
        run.sees("touch");
        run.sees("compose", 0, 2);
        run.does("compose", 0, 2);
        run.does("takeOut", 4);
        run.sees("plan", 0, 0);
        run.sees("plan", 60, 0);
        run.sees("bringIn", 4);
        run.does("plan", 0, 0);
        run.sees("ring", 0, 0, 100);
        run.sees("ring", 0, 15, 100);
        run.does("ring", 0, 3, 100);
        run.sees("stand");
        run.sees("pull", 0, 100);
        run.sees("pull", 1, 0);
        run.sees("bringIn", 4);
        run.does("stand");
        run.sees("ring", 0, 3, 100);
        run.does("ring", 0, 0, 100);
        run.sees("mend", 3, ROPE);
    }

    private static void withoutABoundary() {
        Bounds.told("What it is", "A bell tower: methods by place notation with calls");
        // FaceTest has the constants; the comments are of the text of the interface
        for (String words : new String[] {
            "`NONE = -1`", "`PLAIN = 0, BOB = 1, SINGLE = 2`", "`ROPE = 0, CLAPPER = 1`", "says: ---- methods",
            "says: ---- touches", "says: ---- bells", "says: ---- rota", "says: ---- ringing",
        }) {
            Bounds.told("Ringing", words);
        }
        for (String words : new String[] {"is free", "several threads", "Nothing is promised beyond"}) {
            Bounds.told("Not promised", words);
        }
    }
}
