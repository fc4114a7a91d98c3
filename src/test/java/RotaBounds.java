/** Promises 30 to 37, and the terms "Rota". */
final class RotaBounds {
    private static final String INDEX = Run.INDEX;
    private static final String ARGUMENT = Run.ARGUMENT;
    private static final String STATE = Run.STATE;
    private static final int NONE = GrandsireLoft.NONE;
    private static final int BOB = GrandsireLoft.BOB;

    private RotaBounds() {
    }

    static void all() {
        days();
        upToFour();
        droppedForABell();
        droppedAsNotSound();
        droppedWhenWornOut();
        rungToTheEnd();
        bandsAtFirst();
        turnAtFirst();
        behindTheBandThree();
        notLessThanTheGreatestStage();
        noBand();
        todayKeepsItsBand();
        keptFromTheFirstRinging();
        turnBehindADay();
        setBand();
        plan();
        planOfATouch();
        planRefusesFour();
        planRefusesWhatIsPlanned();
        planRefusesWhatIsNotSound();
        planRefusesForABell();
        planned();
        plannedAt();
        rota();
        pass();
        passInARinging();
        dropped();
    }

    private static void sizes(Run run, int... sizes) {
        for (int band = 0; band < 4; band++) {
            run.does("setBand", band, sizes[band]);
        }
    }

    /** The bands of the days from one on. */
    private static void bands(Run run, int firstDay, int... bands) {
        for (int at = 0; at < bands.length; at++) {
            run.is(bands[at], "rota", firstDay + at);
        }
    }

    /** One touch for each day from one on. */
    private static void plans(Run run, int firstDay, int... touches) {
        for (int at = 0; at < touches.length; at++) {
            run.does("plan", firstDay + at, touches[at]);
        }
    }

    private static void passes(Run run, int days) {
        for (int day = 0; day < days; day++) {
            run.does("pass");
        }
    }

    // ---- terms

    private static void days() {
        Run run = Bounds.of("Rota", "Days are 0 to 60, today is 0 at first");
        run.hunts();
        run.is(0, "today");
        run.refuses(ARGUMENT, "plan", -1, 0);
        run.is(1, "plan", 0, 0);
        run.is(1, "plan", 60, 0);
        run.refuses(ARGUMENT, "plan", 61, 0);
        passes(run, 60);
        run.is(60, "today");
        run.refuses(STATE, "pass");
        run.is(1, "planned", 60);
        run.is(8, "ring", 0, 0, 100);
    }

    private static void upToFour() {
        Run run = Bounds.of("Rota", "For each day from today on up to 4 touches are planned, all unlike");
        run.hunts();
        run.touch(0, "0000");
        run.does("pass");
        int[] order = {3, 1, 4, 0};
        for (int day : new int[] {1, 60}) {
            for (int place = 0; place < 4; place++) {
                run.is(place + 1, "plan", day, order[place]);
                if (place < 3) {
                    run.refuses(STATE, "plan", day, order[0]);
                }
            }
            run.refuses(STATE, "plan", day, 2);
            for (int place = 0; place < 4; place++) {
                run.is(order[place], "plannedAt", day, place);
            }
        }
        run.refuses(ARGUMENT, "plan", 0, 2);
    }

    private static void droppedForABell() {
        Run run = Bounds.of("Rota", "A touch that needs a bell that is out, or is not sound any more, is dropped");
        run.hunts();
        for (int day : new int[] {0, 1, 60}) {
            for (int touch = 0; touch < 4; touch++) {
                run.does("plan", day, touch);
            }
        }
        run.does("pass");
        run.is(0, "dropped");
        run.is(2, "takeOut", 5);
        run.is(2, "dropped");
        run.is(3, "planned", 1);
        run.is(3, "planned", 60);
        run.is(1, "bringIn", 5);
        run.is(3, "planned", 1);
        run.is(2, "takeOut", 4);
        run.is(4, "dropped");
        run.is(0, "plannedAt", 60, 0);
        run.is(3, "plannedAt", 60, 1);
        run.is(4, "takeOut", 3);
        run.is(8, "dropped");
        run.is(0, "planned", 1);
        run.is(0, "planned", 60);
        run.is(0, "takeOut", 0);
        run.is(8, "dropped");
    }

    private static void droppedAsNotSound() {
        Run run = Bounds.of("Rota", "or is not sound any more, is dropped from all these days");
        run.hunt();
        run.touch(0, "0001");
        run.touch(0, "1000");
        run.touch(0, "0000");
        for (int day : new int[] {0, 1, 60}) {
            for (int touch = 0; touch < 3; touch++) {
                run.does("plan", day, touch);
            }
        }
        run.does("pass");
        run.is(9, "setCall", 0, BOB, 9);
        run.is(0, "dropped");
        run.is(9, "setCall", 0, BOB, 3);
        run.is(4, "dropped");
        run.is(1, "planned", 1);
        run.is(2, "plannedAt", 60, 0);
        run.is(3, "setCall", 0, BOB, 9);
        run.is(1, "planned", 1);
        run.is(4, "dropped");
        run.is(2, "plan", 1, 0);
        run.is(9, "setCall", 0, BOB, 0);
        run.is(5, "dropped");
    }

    private static void droppedWhenWornOut() {
        Run run = Bounds.of("Rota", "when that comes about, and each day from which one is dropped counts");
        BellBounds.nearlyWorn(run);
        BellBounds.renew(run, GrandsireLoft.ROPE);
        run.does("plan", 3, 0);
        run.does("plan", 3, 1);
        run.does("plan", 60, 0);
        run.is(0, "ring", 1, 1, 100);
        run.pullsOnTime(0, 19);
        run.is(0, "dropped");
        run.is(2, "planned", 3);
        run.pullsOnTime(0, 1);
        run.is(4, "dropped");
        run.is(0, "planned", 0);
        run.is(0, "planned", 3);
        run.is(0, "planned", 60);
        run.does("mend", 0, GrandsireLoft.CLAPPER);
        run.is(4, "dropped");
    }

    private static void rungToTheEnd() {
        Run run = Bounds.of("Rota", "A touch that is rung to its end is taken from the plan of today");
        run.rings(0, 1, 100);
        run.does("plan", 1, 0);
        run.pullsOnTime(0, 7);
        run.is(4, "planned", 0);
        run.is(7, "stand");
        run.is(4, "planned", 0);
        run.is(0, "plannedAt", 0, 0);
        run.is(0, "ring", 0, 1, 100);
        run.pullsOnTime(0, 8);
        run.is(3, "planned", 0);
        run.is(1, "plannedAt", 0, 0);
        run.is(1, "planned", 1);
        run.is(0, "dropped");
        run.is(10, "ring", 1, 0, 100);
        run.is(12, "ring", 2, 0, 100);
        run.is(1, "planned", 0);
        run.is(8, "ring", 3, 0, 100);
        run.is(0, "planned", 0);
        run.is(0, "dropped");
    }

    private static void bandsAtFirst() {
        Run run = Bounds.of("Rota", "There are the bands 0 to 3, each with a size, which is 6 at first");
        run.refuses(INDEX, "setBand", -1, 4);
        run.refuses(INDEX, "setBand", 4, 4);
        for (int band = 0; band < 4; band++) {
            run.is(6, "setBand", band, 4);
        }
    }

    private static void turnAtFirst() {
        Run run = Bounds.of("Rota", "The turn is at the band 0 at first");
        run.hunts();
        run.is(NONE, "rota", 0);
        run.does("plan", 0, 2);
        run.is(0, "rota", 0);
        run.does("plan", 60, 2);
        run.is(1, "rota", 60);
    }

    private static void behindTheBandThree() {
        Run run = Bounds.of("Rota", "and behind the band 3 from the band 0 on");
        run.hunts();
        plans(run, 0, 0, 0, 0, 0, 0, 0);
        bands(run, 0, 0, 1, 2, 3, 0, 1);
        // six bells at the turn 3, with the band 2 alone great enough: past 3, 0 and 1
        sizes(run, 4, 4, 6, 4);
        plans(run, 3, 2);
        bands(run, 0, 0, 1, 2, 2, 3, 0);
        sizes(run, 6, 4, 4, 4);
        bands(run, 0, 0, 1, 2, 0, 1, 2);
        // the band just ahead of the turn comes last of all
        sizes(run, 4, 4, 4, 6);
        bands(run, 0, 0, 1, 2, 3, 0, 1);
        passes(run, 4);
        run.does("plan", 4, 2);
        bands(run, 4, 3, 0);
    }

    private static void notLessThanTheGreatestStage() {
        Run run = Bounds.of("Rota", "whose size is not less than the greatest stage of these touches");
        run.hunts();
        sizes(run, 4, 5, 6, 4);
        plans(run, 0, 0, 1, 2, 1, 2, 2, 1, 0);
        bands(run, 0, 0, 1, 2, 1, 2, 2, 1, 2);
        // 4 is not less than 4, and is less than 5; 5 is not less than 5, and is less than 6
        run.does("plan", 0, 1);
        bands(run, 0, 1, 2, 2, 1, 2, 2, 1, 2);
        run.does("plan", 0, 2);
        bands(run, 0, 2, 1, 2, 1, 2);
        run.does("plan", 0, 3);
        bands(run, 0, 2, 1, 2, 1, 2);
        run.does("setBand", 1, 4);
        bands(run, 0, 2, 2, 2, 2, 2);
        run.does("setBand", 3, 5);
        bands(run, 0, 2, 3, 2, 3, 2);
    }

    private static void noBand() {
        Run run = Bounds.of("Rota", "the day has none, and the turn stays");
        run.hunts();
        sizes(run, 5, 5, 5, 5);
        plans(run, 0, 0, 2, 1);
        plans(run, 5, 1, 2, 0);
        bands(run, 0, 0, NONE, 1, NONE, NONE, 2, NONE, 3);
        run.refuses(STATE, "ring", 2, 0, 100);
        run.does("setBand", 0, 6);
        bands(run, 0, 0, 0, 1, NONE, NONE, 2, 0, 1);
        run.does("setBand", 0, 4);
        run.does("pass");
        bands(run, 1, NONE, 1, NONE);
        run.does("pass");
        run.does("plan", 2, 3);
        bands(run, 2, 1, NONE, NONE, 2, NONE, 3);
    }

    private static void todayKeepsItsBand() {
        Run run = Bounds.of("Rota", "But today keeps the band that it had when the first ringing of the day began");
        run.hunts();
        plans(run, 0, 0, 0);
        sizes(run, 4, 6, 6, 6);
        bands(run, 0, 0, 1);
        run.is(8, "ring", 0, 0, 100);
        run.is(0, "planned", 0);
        bands(run, 0, 0, 1);
        run.does("plan", 0, 2);
        bands(run, 0, 0, 1);
        run.refuses(STATE, "ring", 2, 0, 100);
        run.does("setBand", 0, 5);
        run.refuses(STATE, "ring", 2, 0, 100);
        run.does("setBand", 0, 6);
        run.is(12, "ring", 2, 0, 100);
        run.does("plan", 0, 1);
        run.does("setBand", 0, 4);
        run.is(2, "takeOut", 0);
        bands(run, 0, 0, NONE);
        run.does("bringIn", 0);
        run.does("pass");
        run.does("plan", 1, 0);
        bands(run, 1, 1);
    }

    private static void keptFromTheFirstRinging() {
        Run run = Bounds.of("Rota", "whatever is planned, dropped or set later, and the turn is behind that one");
        run.hunts();
        sizes(run, 5, 6, 6, 4);
        plans(run, 0, 1, 0, 0);
        // nothing is kept by a ringing that did not begin
        run.refuses(STATE, "ring", 2, 0, 100);
        run.does("plan", 0, 2);
        bands(run, 0, 1, 2, 3);
        run.is(0, "ring", 1, 1, 100);
        sizes(run, 6, 4, 6, 4);
        bands(run, 0, 1, 2, 3);
        run.is(0, "stand");
        bands(run, 0, 1, 2, 3);
        run.refuses(STATE, "ring", 1, 0, 100);
        run.does("setBand", 1, 5);
        run.refuses(STATE, "ring", 2, 0, 100);
        run.is(10, "ring", 1, 0, 100);
        bands(run, 0, 1, 2, 3);
        run.is(1, "pass");
        bands(run, 1, 2, 3);
        sizes(run, 6, 6, 4, 4);
        plans(run, 1, 2);
        bands(run, 1, 0, 1);
    }

    private static void turnBehindADay() {
        Run run = Bounds.of("Rota", "When a day passes, the turn is at where it is behind that day");
        run.hunts();
        for (int day = 0; day < 6; day++) {
            run.does("plan", day, 2);
            run.is(day % 4, "rota", day);
            run.is(day + 1, "pass");
        }
        run.is(7, "pass");
        run.does("plan", 7, 2);
        run.is(2, "rota", 7);
        run.does("setBand", 2, 5);
        run.is(3, "rota", 7);
        run.does("pass");
        run.does("plan", 8, 0);
        run.is(0, "rota", 8);
        run.is(1, "takeOut", 1);
        run.does("bringIn", 1);
        run.does("pass");
        run.does("plan", 9, 0);
        run.is(0, "rota", 9);
        sizes(run, 5, 5, 5, 5);
        run.does("plan", 9, 2);
        run.is(NONE, "rota", 9);
        run.does("pass");
        run.does("plan", 10, 0);
        run.is(0, "rota", 10);
    }

    // ---- promises

    private static void setBand() {
        Run band = Bounds.of(30, "`band`: 0 to 3", "if there is no such band");
        band.refusesBeyond(INDEX, 0, 3, 0, "setBand", 0, 5);
        band.is(6, "setBand", 0, 5);
        band.is(6, "setBand", 3, 4);
        band.refusesBeyond(INDEX, 0, 3, 0, "setBand", 0, 6);
        band.is(5, "setBand", 0, 6);

        Run size = Bounds.of(30, "`size`: 4 to 6", "if size is out of range");
        size.refusesBeyond(ARGUMENT, 4, 6, 1, "setBand", 1, 4);
        size.is(6, "setBand", 1, 4);
        size.refusesBeyond(ARGUMENT, 4, 6, 1, "setBand", 1, 4);
        size.is(4, "setBand", 1, 6);

        Run before = Bounds.of(30, "Sets the size of a band", "Returns the size before");
        before.is(6, "setBand", 2, 6);
        before.is(6, "setBand", 2, 4);
        before.is(4, "setBand", 2, 5);
        before.is(6, "setBand", 1, 6);
        before.is(6, "setBand", 3, 6);
        before.is(5, "setBand", 2, 5);
    }

    private static void plan() {
        Run day = Bounds.of(31, "`day`: today to 60", "if day is out of range");
        day.hunts();
        for (int passed = 0; passed < 3; passed++) {
            day.refusesBeyond(ARGUMENT, passed, 60, 0, "plan", 0, 0);
            day.is(1, "plan", passed, 0);
            day.is(passed + 1, "plan", 60, passed);
            day.is(passed + 1, "pass");
        }
        passes(day, 57);
        day.refusesBeyond(ARGUMENT, 60, 60, 0, "plan", 60, 3);
        day.is(4, "plan", 60, 3);

        Run count = Bounds.of(31, "Plans a touch", "Returns how many are planned for the day then");
        count.hunts();
        for (int touch = 0; touch < 4; touch++) {
            count.is(touch, "planned", 5);
            count.is(touch + 1, "plan", 5, touch);
            count.is(touch, "plannedAt", 5, touch);
        }
        count.is(1, "plan", 6, 0);
    }

    private static void planOfATouch() {
        Run touch = Bounds.of(31, "`touch`: a touch", "if there is no such touch");
        touch.refuses(INDEX, "plan", 0, 0);
        touch.hunts();
        touch.refusesBeyond(INDEX, 0, 3, 1, "plan", 0, 0);
        touch.is(1, "plan", 0, 0);
        touch.is(2, "plan", 0, 3);
        for (int count = 4; count < 12; count++) {
            touch.refuses(INDEX, "plan", 0, count);
            touch.touch(0, "0000");
        }
        touch.refusesBeyond(INDEX, 0, 11, 1, "plan", 0, 0);
        touch.is(3, "plan", 0, 11);
    }

    private static void planRefusesFour() {
        Run run = Bounds.of(31, "if 4 are planned for the day");
        run.hunts();
        run.touch(0, "0000");
        for (int touch = 0; touch < 3; touch++) {
            run.does("plan", 0, touch);
        }
        run.is(4, "plan", 0, 3);
        run.refuses(STATE, "plan", 0, 4);
        run.is(1, "plan", 1, 4);
        run.is(8, "ring", 0, 0, 100);
        run.is(4, "plan", 0, 4);
        run.refuses(STATE, "plan", 0, 0);
        run.is(1, "takeOut", 5);
        run.is(4, "plan", 0, 0);
        run.is(0, "plannedAt", 0, 3);
    }

    private static void planRefusesWhatIsPlanned() {
        Run run = Bounds.of(31, "or it is one of them");
        run.hunts();
        run.does("plan", 0, 0);
        run.refuses(STATE, "plan", 0, 0);
        run.is(2, "plan", 0, 3);
        run.refuses(STATE, "plan", 0, 0);
        run.refuses(STATE, "plan", 0, 3);
        run.is(1, "plan", 1, 0);
        run.is(8, "ring", 0, 0, 100);
        run.is(2, "plan", 0, 0);
        run.refuses(STATE, "plan", 0, 0);
    }

    private static void planRefusesWhatIsNotSound() {
        Run run = Bounds.of(31, "or it is not sound");
        run.hunt();
        run.refuses(STATE, "plan", 0, run.touch(0, "000"));
        run.is(1, "plan", 0, run.touch(0, "0000"));
        run.refuses(STATE, "plan", 0, run.touch(0, "00000000"));
        run.touch(0, "1000");
        run.is(2, "plan", 0, 3);
        run.does("setCall", 0, BOB, 3);
        run.refuses(STATE, "plan", 1, 3);
        run.does("setCall", 0, BOB, 9);
        run.is(1, "plan", 1, 3);
    }

    private static void planRefusesForABell() {
        Run run = Bounds.of(31, "or needs a bell that is out");
        run.hunts();
        for (int touch = 0; touch < 3; touch++) {
            run.does("takeOut", 3 + touch);
            run.refuses(STATE, "plan", 0, touch);
            run.does("bringIn", 3 + touch);
        }
        run.does("takeOut", 5);
        run.refuses(STATE, "plan", 0, 2);
        run.is(1, "plan", 0, 1);
        run.does("takeOut", 4);
        run.refuses(STATE, "plan", 0, 1);
        run.is(1, "plan", 0, 0);
        run.does("takeOut", 0);
        run.refuses(STATE, "plan", 0, 0);
    }

    private static void planned() {
        Run day = Bounds.of(32, "`day`: today to 60", "if day is out of range");
        dayIsThere(day, "planned", 0);

        Run run = Bounds.of(32, "Returns how many touches are planned for a day");
        run.hunts();
        run.is(0, "planned", 0);
        for (int touch = 0; touch < 4; touch++) {
            run.does("plan", 0, touch);
            run.is(touch + 1, "planned", 0);
        }
        run.is(0, "planned", 1);
        run.does("takeOut", 5);
        run.is(3, "planned", 0);
        run.does("takeOut", 0);
        run.is(0, "planned", 0);
    }

    /** A call whose first argument is a day is refused for days ahead of today or behind 60. */
    private static void dayIsThere(Run run, String name, int... arguments) {
        run.hunts();
        run.does("plan", 60, 0);
        for (int passed = 0; passed <= 60; passed++) {
            if (passed < 2 || passed > 58) {
                run.does("plan", passed, 1);
                run.refusesBeyond(ARGUMENT, passed, 60, 0, name, arguments);
                int[] own = arguments.clone();
                own[0] = passed;
                run.does(name, own);
                own[0] = 60;
                run.does(name, own);
            }
            if (passed < 60) {
                run.does("pass");
            }
        }
    }

    private static void plannedAt() {
        Run day = Bounds.of(33, "`day`: today to 60", "if day is out of range");
        dayIsThere(day, "plannedAt", 0, 0);

        Run run = Bounds.of(33, "`place`: 0 for the one that was planned first", "if there is no such place");
        run.hunts();
        int[] order = {2, 0, 3, 1};
        run.refusesBeyond(INDEX, 0, -1, 1, "plannedAt", 7, 0);
        for (int count = 0; count < 4; count++) {
            run.does("plan", 7, order[count]);
            run.refusesBeyond(INDEX, 0, count, 1, "plannedAt", 7, 0);
            run.is(2, "plannedAt", 7, 0);
            run.is(order[count], "plannedAt", 7, count);
        }
        run.refuses(INDEX, "plannedAt", 6, 0);

        Run moved = Bounds.of(33, "Returns a touch that is planned for a day");
        moved.hunts();
        for (int touch : order) {
            moved.does("plan", 0, touch);
        }
        moved.does("takeOut", 5);
        moved.is(0, "plannedAt", 0, 0);
        moved.is(1, "plannedAt", 0, 2);
        moved.refuses(INDEX, "plannedAt", 0, 3);
        moved.does("ring", 3, 0, 100);
        moved.is(0, "plannedAt", 0, 0);
        moved.is(1, "plannedAt", 0, 1);
        moved.refuses(INDEX, "plannedAt", 0, 2);
    }

    private static void rota() {
        Run day = Bounds.of(34, "`day`: today to 60", "if day is out of range");
        dayIsThere(day, "rota", 0);

        Run run = Bounds.of(34, "Returns the band of a day by the rota", "NONE if the day has none");
        run.hunts();
        sizes(run, 5, 5, 5, 5);
        plans(run, 0, 1, 2);
        bands(run, 0, 0, NONE, NONE);
        run.does("setBand", 3, 6);
        bands(run, 0, 0, 3, NONE);
        run.does("takeOut", 0);
        bands(run, 0, NONE, NONE, NONE);
    }

    private static void pass() {
        Run run = Bounds.of(35, "Returns today then", "or today is 60").also("Promise 36", "Returns today");
        for (int day = 0; day < 60; day++) {
            run.is(day, "today");
            run.is(day + 1, "pass");
        }
        run.is(60, "today");
        run.refuses(STATE, "pass");
        run.refuses(STATE, "pass");
        run.is(60, "today");

        Run gone = Bounds.of(35, "Lets the day pass; what was planned for it is gone");
        gone.hunts();
        gone.does("plan", 0, 0);
        gone.does("plan", 0, 1);
        gone.does("plan", 1, 2);
        gone.is(1, "pass");
        gone.refuses(ARGUMENT, "planned", 0);
        gone.is(1, "planned", 1);
        gone.refuses(STATE, "ring", 0, 0, 100);
        gone.is(0, "dropped");
        gone.is(1, "takeOut", 0);
        gone.is(1, "dropped");
    }

    private static void passInARinging() {
        Run run = Bounds.of(35, "if a ringing is on");
        run.rings(0, 1, 100);
        run.refuses(STATE, "pass");
        run.pullsOnTime(0, 7);
        run.refuses(STATE, "pass");
        run.pullsOnTime(0, 1);
        run.is(1, "pass");
        run.does("plan", 1, 1);
        run.is(0, "ring", 1, 1, 100);
        run.refuses(STATE, "pass");
        run.is(0, "stand");
        run.is(2, "pass");
    }

    private static void dropped() {
        Run run = Bounds.of(37, "Returns how many touches were dropped so far, each for each day");
        run.hunts();
        run.is(0, "dropped");
        run.does("takeOut", 0);
        run.does("bringIn", 0);
        run.is(0, "dropped");
        run.does("plan", 0, 0);
        run.does("takeOut", 0);
        run.is(1, "dropped");
        run.does("bringIn", 0);
        for (int day = 0; day <= 60; day++) {
            run.does("plan", day, 0);
        }
        run.does("plan", 60, 2);
        run.is(62, "takeOut", 0);
        run.is(63, "dropped");
        run.does("bringIn", 0);
        run.does("plan", 0, 0);
        run.does("plan", 0, 3);
        run.does("ring", 0, 0, 100);
        run.does("pass");
        run.is(63, "dropped");
    }
}
