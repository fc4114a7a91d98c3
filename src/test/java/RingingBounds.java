/** Promises 38 to 51, and the terms "Ringing". */
final class RingingBounds {
    private static final String INDEX = Run.INDEX;
    private static final String ARGUMENT = Run.ARGUMENT;
    private static final String STATE = Run.STATE;
    private static final int NONE = GrandsireLoft.NONE;
    private static final int LATEST_TIME = 2000000000;

    private RingingBounds() {
    }

    static void all() {
        terms();
        ringOfATouch();
        ringByPeople();
        ringWithAGap();
        ringDoesRows();
        ringInARinging();
        ringOfWhatIsNotPlanned();
        ringOfTheLatest();
        ringWithABand();
        stand();
        isRinging();
        pullOfABell();
        pullAtATime();
        pullByPeopleAlone();
        pullInAllRows();
        greatestSumOfErrors();
        leastSumOfErrors();
        greatestDelay();
        due();
        setPatience();
        done();
        delay();
        late();
        early();
        errors();
        wrong();
        rung();
        latest();
    }

    private static void terms() {
        whatCanBeRung();
        peopleAndTrainer();
        dueTimes();
        dueTimesOfTheLastRow();
        delayAtFirst();
        pullsAreBlows();
        errorOfAPull();
        lateByAQuarter();
        earlyByAQuarter();
        patience();
        rowsAreDoneBehindTheDelay();
        rowsOneBehindTheOther();
        rowOfAllPeople();
        wrongRows();
        wrongByTheTrainer();
        wornOutInTheLastRow();
        wornOutBehindTheLastRow();
    }

    // ---- terms

    private static void whatCanBeRung() {
        Run run = Bounds.of("Ringing", "A touch that is planned for today can be rung, but not the one");
        run.hunts();
        run.refuses(STATE, "ring", 0, 0, 100);
        run.does("plan", 1, 0);
        run.refuses(STATE, "ring", 0, 0, 100);
        run.does("plan", 0, 0);
        run.is(8, "ring", 0, 0, 100);
        run.does("plan", 0, 0);
        run.refuses(STATE, "ring", 0, 0, 100);
        run.does("plan", 0, 3);
        run.is(0, "ring", 3, 1, 100);
        run.pullsOnTime(0, 7);
        run.is(7, "stand");
        run.refuses(STATE, "ring", 0, 0, 100);
        run.is(8, "ring", 3, 0, 100);
        run.is(8, "ring", 0, 0, 100);
        run.does("pass");
        run.refuses(STATE, "ring", 0, 0, 100);
        run.does("plan", 1, 3);
        run.is(8, "ring", 3, 0, 100);
        run.is(8, "ring", 0, 0, 100);
    }

    private static void peopleAndTrainer() {
        Run all = Bounds.of("Ringing", "Some of its bells are rung by people, the others by the trainer");
        all.rings(0, 15, 100);
        for (int row = 0; row < 8; row++) {
            for (int bell = 0; bell < 4; bell++) {
                all.is(row, "done");
                all.pullsOnTime(bell, 1);
            }
        }
        all.is(0, "isRinging");
        all.is(1, "rung");

        Run none = Bounds.of("Ringing", "Some of its bells are rung by people, the others by the trainer");
        none.rings(0, 0, 100);
        none.is(0, "isRinging");
        none.is(1, "rung");
        none.is(12, "wear", 3, GrandsireLoft.ROPE);
        none.is(0, "ring", 1, 16, 100);
        none.refuses(STATE, "due", 3);
        none.is(400, "due", 4);
        none.refuses(STATE, "due", 5);
    }

    private static void dueTimes() {
        int[][] places = {{1, 2, 3, 3}, {1, 2, 3, 4}, {1, 2, 3, 4}};
        for (int touch = 0; touch < 3; touch++) {
            for (int gap : new int[] {100, 101, 1000}) {
                Run run = Bounds.of("Ringing", "is due at the time gap * (n * r + p + r / 2)");
                run.rings(touch, 1, gap);
                int stage = 4 + touch;
                int[] halves = {0, 0, 1, 1};
                for (int row = 0; row < 4; row++) {
                    run.is((long) gap * (stage * row + places[touch][row] + halves[row]), "due", 0);
                    run.pullsOnTime(0, 1);
                }
            }
        }
    }

    private static void dueTimesOfTheLastRow() {
        Run run = Bounds.of("Ringing", "is due at the time gap * (n * r + p + r / 2)");
        TouchBounds.longest(run);
        run.does("plan", 0, 0);
        run.is(0, "ring", 0, 33, 1000);
        for (int row = 0; row < 238; row++) {
            run.does("pull", 5, 0);
        }
        // each of the pulls is early, so there is no delay; the last row is rounds, the one ahead of it 012354
        run.is(1000 * (6 * 238 + 4 + 119), "due", 5);
        run.does("pull", 5, 0);
        run.is(1000 * (6 * 239 + 5 + 119), "due", 5);
        run.does("pull", 5, 0);
        run.refuses(STATE, "due", 5);
        run.is(1000, "due", 0);
    }

    private static void delayAtFirst() {
        Run run = Bounds.of("Ringing", "the delay is 0 when the ringing begins");
        run.rings(0, 1, 100);
        run.is(0, "delay");
        run.pulls(0, 1000);
        run.is(800, "delay");
        run.is(1400, "due", 0);
        run.does("stand");
        run.is(0, "delay");
        run.is(0, "ring", 0, 1, 100);
        run.is(0, "delay");
        run.is(100, "due", 0);
        run.pulls(0, 201);
        run.is(1, "delay");
    }

    private static void pullsAreBlows() {
        Run run = Bounds.of("Ringing", "are its blows in the rows 0, 1, 2 and so on, one each");
        run.rings(0, 3, 100);
        int[] due = {100, 600, 1200, 1600, 2000, 2300, 2700, 3100};
        int[] ropes = {1, 3, 4, 6, 7, 9, 10, 12};
        for (int row = 0; row < 8; row++) {
            run.is(due[row], "due", 0);
            run.is(0, "pull", 0, due[row]);
            run.is(ropes[row], "wear", 0, GrandsireLoft.ROPE);
            run.is(row + 1, "wear", 0, GrandsireLoft.CLAPPER);
            run.is(0, "done");
        }
        run.refuses(STATE, "pull", 0, 3500);
        run.refuses(STATE, "due", 0);
        run.is(0, "wear", 2, GrandsireLoft.ROPE);
        run.is(0, "due", 1);
        run.pullsOnTime(1, 1);
        run.is(1, "done");
        run.is(12, "wear", 0, GrandsireLoft.ROPE);
        run.is(1, "wear", 2, GrandsireLoft.ROPE);
    }

    private static void errorOfAPull() {
        Run run = Bounds.of("Ringing", "The error of a pull is its time less the time at which it is due")
                .also("Promise 41", "Returns its error");
        run.rings(0, 1, 100);
        run.is(-100, "pull", 0, 0);
        run.is(-1, "pull", 0, 599);
        run.is(0, "pull", 0, 1200);
        run.is(1, "pull", 0, 1601);
        run.is(1000, "pull", 0, 3000);
        run.is(0, "pull", 0, 3100);
        run.is(900, "errors", 0);
    }

    /** Late or early by a quarter of the gap is neither; by one more it is. */
    private static void byAQuarter(Run run, String name, int sign, int gap, int quarter) {
        run.rings(0, 3, gap);
        run.pulls(0, sign * quarter);
        run.is(0, name, 0);
        run.pulls(0, sign * (quarter + 1));
        run.is(1, name, 0);
        run.pulls(0, 0);
        run.pulls(0, -sign * (quarter + 1));
        run.is(1, name, 0);
        run.is(0, name, 1);
        run.pulls(1, sign == 1 ? quarter + 1 : 0);
        run.is(sign == 1 ? 1 : 0, name, 1);
        run.is(1, name, 0);
    }

    private static void lateByAQuarter() {
        int[][] gaps = {{100, 25}, {101, 25}, {103, 25}, {104, 26}, {999, 249}, {1000, 250}};
        for (int[] gap : gaps) {
            byAQuarter(Bounds.of("Ringing", "It is late if its error is greater than a quarter"),
                    "late", 1, gap[0], gap[1]);
        }
    }

    private static void earlyByAQuarter() {
        int[][] gaps = {{100, 25}, {102, 25}, {103, 25}, {107, 26}, {999, 249}, {1000, 250}};
        for (int[] gap : gaps) {
            byAQuarter(Bounds.of("Ringing", "early if it is less than 0 by more than that"),
                    "early", -1, gap[0], gap[1]);
        }
    }

    private static void patience() {
        for (int patience : new int[] {0, 1, 200, 1000}) {
            Run run = Bounds.of("Ringing", "If the error is greater than the patience, which is 200 at first");
            if (patience != 200) {
                run.is(200, "setPatience", patience);
            }
            run.rings(0, 3, 1000);
            run.pulls(0, patience);
            run.is(0, "delay");
            run.pulls(0, patience + 1);
            run.is(1, "delay");
            run.pulls(1, patience + 7);
            run.is(8, "delay");
            run.pulls(1, -patience - 300);
            run.is(8, "delay");
            run.is(patience, "setPatience", 5);
            run.pulls(1, 6);
            run.is(9, "delay");
        }
    }

    private static void rowsAreDoneBehindTheDelay() {
        // 1032: the bell 0 is at 100 + 500, the bell 3 behind it at 200 + 500 - patience
        for (int patience : new int[] {99, 100}) {
            Run run = Bounds.of("Ringing", "the delay grows by the error less the patience, and then rows are done");
            run.does("setPatience", patience);
            run.rings(0, 1, 100);
            run.pulls(0, 500);
            run.is(500 - patience, "delay");
            run.is(patience == 99 ? 0 : 1, "wrong");
            run.is(1, "done");
        }
    }

    private static void rowsOneBehindTheOther() {
        Run run = Bounds.of("Ringing", "Rows are done one behind the other");
        run.rings(0, 3, 100);
        run.pullsOnTime(0, 3);
        run.is(0, "done");
        for (int row = 0; row < 3; row++) {
            run.pullsOnTime(1, 1);
            run.is(row + 1, "done");
        }
        run.pullsOnTime(1, 1);
        run.is(3, "done");
        run.pullsOnTime(0, 1);
        run.is(4, "done");
        run.is(4, "stand");
    }

    private static void rowOfAllPeople() {
        Run run = Bounds.of("Ringing", "as soon as all bells that people ring have had their blow in it");
        run.rings(2, 0, 100);
        run.is(1, "rung");
        run.is(0, "ring", 0, 11, 100);
        run.pullsOnTime(3, 1);
        run.pullsOnTime(0, 2);
        run.is(0, "done");
        run.is(12, "wear", 2, GrandsireLoft.CLAPPER);
        run.pullsOnTime(1, 1);
        run.is(1, "done");
        run.is(13, "wear", 2, GrandsireLoft.CLAPPER);
        run.pullsOnTime(1, 1);
        run.is(1, "done");
        run.pullsOnTime(3, 1);
        run.is(2, "done");
        // by one bell alone, each pull does a row; the delay of that pull counts for the trainer's blows
        run.does("stand");
        run.is(0, "ring", 0, 2, 100);
        run.does("pull", 1, 201);
        run.is(1, "delay");
        run.is(1, "done");
        run.is(1, "wrong");
    }

    /** The first row by people is 1032, each bell pulled at one of these times, by its place. */
    private static void wrongIn(int due, int... times) {
        Run run = Bounds.of("Ringing", "A row is wrong if the time of some blow is not greater");
        run.rings(0, 15, 100);
        int[] bells = {1, 0, 3, 2};
        for (int place = 0; place < 4; place++) {
            run.is(0, "wrong");
            run.does("pull", bells[place], times[place]);
        }
        run.is(1, "done");
        run.is(due, "wrong");
    }

    private static void wrongRows() {
        wrongIn(0, 0, 1, 2, 3);
        wrongIn(1, 0, 0, 1, 2);
        wrongIn(1, 0, 1, 1, 2);
        wrongIn(1, 0, 1, 2, 2);
        wrongIn(1, 1, 0, 2, 3);
        wrongIn(1, 0, 2, 1, 3);
        wrongIn(1, 0, 1, 3, 2);
        wrongIn(1, 0, 0, 0, 0);
        wrongIn(1, 4, 3, 2, 1);
        wrongIn(0, 0, 100, 200, LATEST_TIME);
    }

    private static void wrongByTheTrainer() {
        Run run = Bounds.of("Ringing", "A row is wrong if the time of some blow is not greater");
        run.rings(0, 1, 100);
        // 1032: ahead of the bell 0 the trainer is at 0, behind it at 200
        run.does("pull", 0, 1);
        run.is(0, "wrong");
        // 1302: ahead of it at 500, behind it at 700; the row before is not asked
        run.does("pull", 0, 501);
        run.is(0, "wrong");
        // 3120: it is last, ahead of it at 1100
        run.does("pull", 0, 1100);
        run.is(1, "wrong");
        // 3210: ahead of it at 1500
        run.does("pull", 0, 1501);
        run.is(1, "wrong");
        // 2301: ahead of it at 1900, behind it at 2100
        run.does("pull", 0, 2099);
        run.is(1, "wrong");
        // 2031: ahead of it at 2200, behind it at 2400
        run.does("pull", 0, 2400);
        run.is(2, "wrong");
        // 0213: none ahead, behind it at 2800
        run.does("pull", 0, 0);
        run.is(2, "wrong");
        run.does("pull", 0, 3200);
        run.is(3, "wrong");
        run.is(1, "rung");
    }

    private static void wornOutInTheLastRow() {
        Run run = Bounds.of("Ringing", "When a row is done by which a bell of the touch is worn out, the ringing ends");
        clappersAt(run, 190);
        run.does("plan", 0, 3);
        run.does("plan", 1, 3);
        run.is(4, "rung");
        run.is(0, "dropped");
        run.is(10, "ring", 3, 0, 100);
        run.is(200, "wear", 4, GrandsireLoft.CLAPPER);
        run.is(0, "isIn", 4);
        run.is(1, "isIn", 5);
        run.is(4, "rung");
        run.is(2, "latest");
        // the touches 1 and 3 today, and 3 on the next day
        run.is(3, "dropped");
        BellBounds.renew(run, GrandsireLoft.CLAPPER);
        run.does("plan", 0, 3);
        run.is(10, "ring", 3, 0, 100);
        run.is(5, "rung");
        run.is(3, "latest");
    }

    private static void wornOutBehindTheLastRow() {
        Run run = Bounds.of("Ringing", "otherwise, when all rows are done, it ends, and the touch was rung to its end");
        clappersAt(run, 190);
        run.touch(run.hunt(), "0000");
        run.does("plan", 0, 3);
        run.does("plan", 0, 4);
        run.is(0, "ring", 3, 1, 100);
        run.pullsOnTime(0, 1);
        run.is(1, "stand");
        run.is(8, "ring", 4, 0, 100);
        run.is(199, "wear", 0, GrandsireLoft.CLAPPER);
        run.is(1, "isIn", 0);
        run.is(5, "rung");
        run.is(4, "latest");
        run.is(0, "dropped");
        run.is(1, "ring", 3, 0, 100);
        run.is(200, "wear", 0, GrandsireLoft.CLAPPER);
        run.is(0, "isIn", 0);
        run.is(5, "rung");
        run.is(4, "latest");
        run.is(2, "dropped");
    }

    /** Three courses of the minor, and plain hunt on five: the touch 3 is as that, the touch 1 still planned. */
    private static void clappersAt(Run run, int wear) {
        BellBounds.nearlyWorn(run);
        BellBounds.renew(run, GrandsireLoft.ROPE);
        run.touch(run.huntOfFive(), "00000");
        run.touch(1, "00000");
        run.does("plan", 0, 2);
        run.is(10, "ring", 2, 0, 100);
        run.is(wear, "wear", 4, GrandsireLoft.CLAPPER);
    }

    // ---- promises

    private static void ringOfATouch() {
        Run run = Bounds.of(38, "`touch`: a touch", "if there is no such touch");
        run.refuses(INDEX, "ring", 0, 0, 100);
        run.rings(0, 0, 100);
        run.refusesBeyond(INDEX, 0, 3, 0, "ring", 0, 0, 100);
        run.is(8, "ring", 3, 0, 100);
        run.does("plan", 0, 0);
        run.is(8, "ring", 0, 0, 100);
    }

    private static void ringByPeople() {
        Run run = Bounds.of(38, "`people`: the bells that people ring", "if people or gap is out of range");
        run.hunts();
        for (int touch = 0; touch < 3; touch++) {
            int all = (1 << 4 + touch) - 1;
            run.does("plan", 0, touch);
            run.refusesBeyond(ARGUMENT, 0, all, 1, "ring", touch, 0, 100);
            run.is(0, "ring", touch, all, 100);
            for (int bell = 0; bell < 6; bell++) {
                if (bell < 4 + touch) {
                    run.does("due", bell);
                } else {
                    run.refuses(STATE, "due", bell);
                }
            }
            run.does("stand");
            run.is(0, "ring", touch, 1 << 3 + touch, 100);
            run.does("due", 3 + touch);
            run.refuses(STATE, "due", 2 + touch);
            run.does("stand");
            run.is(8 + 2 * touch, "ring", touch, 0, 100);
        }
    }

    private static void ringWithAGap() {
        Run run = Bounds.of(38, "`gap`: 100 to 1000", "if people or gap is out of range");
        run.hunts();
        run.does("plan", 0, 0);
        run.refusesBeyond(ARGUMENT, 100, 1000, 2, "ring", 0, 1, 100);
        run.is(0, "ring", 0, 1, 100);
        run.is(100, "due", 0);
        run.does("stand");
        run.is(0, "ring", 0, 1, 1000);
        run.is(1000, "due", 0);
        run.does("stand");
        run.refusesBeyond(ARGUMENT, 100, 1000, 2, "ring", 0, 0, 100);
    }

    private static void ringDoesRows() {
        Run run = Bounds.of(38, "Begins to ring a touch", "Returns how many rows are done by that");
        TouchBounds.longest(run);
        run.method(6, 0);
        run.touch(1, "00");
        run.does("plan", 0, 0);
        run.does("plan", 0, 1);
        run.is(0, "ring", 0, 32, 100);
        run.is(0, "done");
        run.does("stand");
        run.is(2, "ring", 1, 0, 100);
        run.is(1, "rung");
        // two rows have worn the clappers by 2, so the 198th row is the last one
        run.is(198, "ring", 0, 0, 100);
        run.is(1, "rung");

        Run whole = Bounds.of(38, "Returns how many rows are done by that");
        whole.rings(0, 0, 100);
        whole.is(10, "ring", 1, 0, 100);
        whole.is(12, "ring", 2, 0, 100);
        whole.is(0, "ring", 3, 8, 100);
    }

    private static void ringInARinging() {
        Run run = Bounds.of(38, "if a ringing is on, the touch is not planned for today");
        run.rings(0, 1, 100);
        run.refuses(STATE, "ring", 0, 1, 100);
        run.refuses(STATE, "ring", 1, 0, 100);
        run.pullsOnTime(0, 7);
        run.refuses(STATE, "ring", 1, 0, 100);
        run.pullsOnTime(0, 1);
        run.is(0, "ring", 1, 1, 100);
        run.refuses(STATE, "ring", 2, 1, 100);
        run.is(0, "stand");
        run.is(12, "ring", 2, 0, 100);
    }

    private static void ringOfWhatIsNotPlanned() {
        Run run = Bounds.of(38, "the touch is not planned for today");
        run.hunts();
        run.refuses(STATE, "ring", 0, 0, 100);
        run.does("plan", 0, 3);
        run.does("plan", 1, 0);
        run.refuses(STATE, "ring", 0, 0, 100);
        run.does("pass");
        run.refuses(STATE, "ring", 3, 0, 100);
        run.does("takeOut", 0);
        run.does("bringIn", 0);
        run.refuses(STATE, "ring", 0, 0, 100);
        run.does("plan", 1, 0);
        run.is(8, "ring", 0, 0, 100);
        run.refuses(STATE, "ring", 0, 0, 100);
    }

    private static void ringOfTheLatest() {
        Run run = Bounds.of(38, "or was rung to its end latest");
        run.rings(0, 0, 100);
        run.does("plan", 0, 0);
        run.refuses(STATE, "ring", 0, 0, 100);
        run.refuses(STATE, "ring", 0, 15, 1000);
        run.is(8, "ring", 3, 0, 100);
        run.is(8, "ring", 0, 0, 100);
        run.does("plan", 0, 0);
        run.refuses(STATE, "ring", 0, 0, 100);
        run.is(10, "ring", 1, 0, 100);
        run.is(0, "ring", 0, 1, 100);
    }

    private static void ringWithABand() {
        Run none = Bounds.of(38, "or today has no band");
        none.hunts();
        none.does("plan", 0, 0);
        none.does("plan", 0, 1);
        for (int band = 0; band < 4; band++) {
            none.does("setBand", band, 4);
        }
        none.refuses(STATE, "ring", 0, 0, 100);
        none.refuses(STATE, "ring", 1, 0, 100);
        none.does("setBand", 3, 5);
        none.is(8, "ring", 0, 0, 100);
        none.is(10, "ring", 1, 0, 100);

        Run small = Bounds.of(38, "or one whose size is less than its stage");
        small.hunts();
        for (int touch = 0; touch < 3; touch++) {
            small.does("plan", 0, touch);
        }
        small.is(0, "ring", 2, 1, 100);
        small.does("setBand", 0, 5);
        small.is(0, "stand");
        small.refuses(STATE, "ring", 2, 1, 100);
        small.is(10, "ring", 1, 0, 100);
        small.does("plan", 0, 1);
        small.does("setBand", 0, 4);
        small.is(8, "ring", 0, 0, 100);
        small.refuses(STATE, "ring", 1, 0, 100);
        small.does("setBand", 0, 6);
        small.is(12, "ring", 2, 0, 100);
    }

    private static void stand() {
        Run run = Bounds.of(39, "Ends the ringing, ahead of its end", "Returns how many rows", "if none is on");
        run.refuses(STATE, "stand");
        run.rings(0, 0, 100);
        run.refuses(STATE, "stand");
        run.is(0, "ring", 1, 1, 100);
        run.is(0, "stand");
        run.refuses(STATE, "stand");
        run.is(0, "ring", 1, 1, 100);
        run.pullsOnTime(0, 9);
        run.is(9, "stand");
        run.refuses(STATE, "stand");
        run.is(0, "ring", 1, 1, 100);
        run.pullsOnTime(0, 10);
        run.refuses(STATE, "stand");
    }

    private static void isRinging() {
        Run run = Bounds.of(40, "Tells whether a ringing is on");
        run.is(0, "isRinging");
        run.rings(0, 1, 100);
        run.is(1, "isRinging");
        run.pullsOnTime(0, 7);
        run.is(1, "isRinging");
        run.pullsOnTime(0, 1);
        run.is(0, "isRinging");
        run.is(10, "ring", 1, 0, 100);
        run.is(0, "isRinging");
        run.is(0, "ring", 2, 1, 100);
        run.is(1, "isRinging");
        run.does("stand");
        run.is(0, "isRinging");
    }

    private static void pullOfABell() {
        Run run = Bounds.of(41, "`bell`: 0 to 5", "if there is no such bell", "Hears a pull of a bell");
        run.refusesBeyond(INDEX, 0, 5, 0, "pull", 0, 0);
        run.rings(2, 63, 100);
        run.refusesBeyond(INDEX, 0, 5, 0, "pull", 0, 0);
        run.is(0, "pull", 0, 100);
        run.is(0, "pull", 5, 400);
        run.is(0, "due", 1);
        run.is(800, "due", 0);
    }

    private static void pullAtATime() {
        Run run = Bounds.of(41, "`time`: 0 to 2000000000", "if time is out of range");
        run.rings(0, 3, 100);
        run.refusesBeyond(ARGUMENT, 0, LATEST_TIME, 1, "pull", 0, 0);
        run.is(-100, "pull", 0, 0);
        run.refusesBeyond(ARGUMENT, 0, LATEST_TIME, 1, "pull", 0, 0);
        run.is(LATEST_TIME - 600, "pull", 0, LATEST_TIME);
        run.refusesBeyond(ARGUMENT, 0, LATEST_TIME, 1, "pull", 1, 0);
        run.is(-(LATEST_TIME - 800), "pull", 1, 0);
    }

    private static void pullByPeopleAlone() {
        Run run = Bounds.of(41, "if no ringing is on in which people ring it");
        run.refuses(STATE, "pull", 0, 0);
        run.rings(1, 17, 100);
        run.refuses(STATE, "pull", 1, 0);
        run.refuses(STATE, "pull", 3, 0);
        run.refuses(STATE, "pull", 5, 0);
        run.is(-100, "pull", 0, 0);
        run.is(-400, "pull", 4, 0);
        run.does("stand");
        run.refuses(STATE, "pull", 0, 0);
        run.is(0, "ring", 1, 2, 100);
        run.refuses(STATE, "pull", 0, 0);
        run.pullsOnTime(1, 10);
        run.refuses(STATE, "pull", 1, 0);
    }

    private static void pullInAllRows() {
        Run few = Bounds.of(41, "or it has had its blows in all rows").also("Promise 42", "in all rows");
        few.rings(0, 3, 100);
        few.pullsOnTime(0, 8);
        few.refuses(STATE, "pull", 0, 0);
        few.refuses(STATE, "due", 0);
        few.pullsOnTime(1, 7);
        few.refuses(STATE, "pull", 0, 3500);
        few.is(1, "isRinging");
        few.pullsOnTime(1, 1);
        few.is(0, "isRinging");

        Run many = Bounds.of(41, "or it has had its blows in all rows");
        TouchBounds.longest(many);
        many.does("plan", 0, 0);
        many.is(0, "ring", 0, 3, 100);
        for (int row = 0; row < 239; row++) {
            many.does("pull", 1, 0);
        }
        many.is(-100 * (6 * 239 + 1 + 119), "pull", 1, 0);
        many.refuses(STATE, "pull", 1, 0);
        many.refuses(STATE, "due", 1);
        many.is(240, "wear", 1, GrandsireLoft.CLAPPER);
        many.is(360, "wear", 1, GrandsireLoft.ROPE);
        many.is(1, "isIn", 1);
    }

    private static void greatestSumOfErrors() {
        Run run = Bounds.of(41, "or the sum of its errors would not fit into an int");
        run.rings(0, 3, 100);
        run.is(LATEST_TIME - 100, "pull", 0, LATEST_TIME);
        run.does("stand");
        run.is(0, "ring", 0, 3, 100);
        int rest = Integer.MAX_VALUE - (LATEST_TIME - 100);
        run.refuses(STATE, "pull", 0, LATEST_TIME);
        run.refuses(STATE, "pull", 0, 100 + rest + 1);
        run.is(rest, "pull", 0, 100 + rest);
        run.is(Integer.MAX_VALUE, "errors", 0);
        int due = run.does("due", 0);
        run.refuses(STATE, "pull", 0, due + 1);
        run.is(1, "pull", 1, rest - 200 + 1);
        run.is(0, "pull", 0, due);
        run.is(-1, "pull", 0, run.does("due", 0) - 1);
        run.is(Integer.MAX_VALUE - 1, "errors", 0);
        run.is(1, "pull", 0, run.does("due", 0) + 1);
        run.refuses(STATE, "pull", 0, run.does("due", 0) + 1);
    }

    private static void leastSumOfErrors() {
        Run run = Bounds.of(41, "or the sum of its errors would not fit into an int");
        run.rings(0, 3, 100);
        run.is(LATEST_TIME - 100, "pull", 0, LATEST_TIME);
        run.is(LATEST_TIME - 300, "delay");
        run.is(-(LATEST_TIME - 300), "pull", 1, 0);
        int rest = Integer.MIN_VALUE + LATEST_TIME - 300;
        int due = run.does("due", 1);
        run.refuses(STATE, "pull", 1, 0);
        run.refuses(STATE, "pull", 1, due + rest - 1);
        run.is(rest, "pull", 1, due + rest);
        run.is(Integer.MIN_VALUE, "errors", 1);
        run.refuses(STATE, "pull", 1, LATEST_TIME);
        run.is(2, "early", 1);
    }

    private static void greatestDelay() {
        Run run = Bounds.of(41, "or the delay would be above 2000000000");
        run.does("setPatience", 0);
        run.rings(0, 10, 100);
        run.is(LATEST_TIME, "pull", 1, LATEST_TIME);
        run.is(LATEST_TIME, "delay");
        run.is(LATEST_TIME + 200, "due", 3);
        run.is(-200, "pull", 3, LATEST_TIME);
        run.is(LATEST_TIME, "delay");
        run.is(LATEST_TIME + 400, "due", 1);
        run.is(-400, "pull", 1, LATEST_TIME);
        run.is(LATEST_TIME, "delay");
        run.refuses(ARGUMENT, "pull", 1, LATEST_TIME + 1);

        Run less = Bounds.of(41, "or the delay would be above 2000000000");
        less.does("setPatience", 0);
        less.rings(0, 2, 100);
        less.is(LATEST_TIME - 500, "pull", 1, LATEST_TIME - 500);
        // without a delay the pull would be due at 400: a delay is never above the time of a pull less that
        less.is(100, "pull", 1, LATEST_TIME);
        less.is(LATEST_TIME - 400, "delay");
        less.refuses(ARGUMENT, "pull", 1, LATEST_TIME + 1);
        less.is(-600, "pull", 1, LATEST_TIME);
        less.is(LATEST_TIME - 400, "delay");
    }

    private static void due() {
        Run bell = Bounds.of(42, "`bell`: 0 to 5", "if there is no such bell");
        bell.refusesBeyond(INDEX, 0, 5, 0, "due", 0);
        bell.rings(2, 63, 1000);
        bell.refusesBeyond(INDEX, 0, 5, 0, "due", 0);
        bell.is(1000, "due", 0);
        bell.is(4000, "due", 5);

        Run people = Bounds.of(42, "if no ringing is on in which people ring it");
        people.refuses(STATE, "due", 0);
        people.rings(1, 17, 100);
        people.refuses(STATE, "due", 1);
        people.refuses(STATE, "due", 5);
        people.is(100, "due", 0);
        people.is(400, "due", 4);
        people.does("stand");
        people.refuses(STATE, "due", 0);

        Run next = Bounds.of(42, "Returns the time at which the next pull of a bell is due");
        next.rings(0, 1, 100);
        next.is(100, "due", 0);
        next.pulls(0, 0);
        next.is(600, "due", 0);
        next.pulls(0, 201);
        next.is(1201, "due", 0);
        for (int row = 2; row < 7; row++) {
            next.pulls(0, 0);
        }
        next.is(3101, "due", 0);
        next.pulls(0, 0);
        next.refuses(STATE, "due", 0);
    }

    private static void setPatience() {
        Run run = Bounds.of(43, "`patience`: 0 to 1000", "if patience is out of range", "Returns the one before",
                "Sets the patience");
        run.refusesBeyond(ARGUMENT, 0, 1000, 0, "setPatience", 0);
        run.is(200, "setPatience", 0);
        run.refusesBeyond(ARGUMENT, 0, 1000, 0, "setPatience", 0);
        run.is(0, "setPatience", 1000);
        run.refusesBeyond(ARGUMENT, 0, 1000, 0, "setPatience", 0);
        run.is(1000, "setPatience", 1000);
        run.rings(0, 1, 100);
        run.refusesBeyond(ARGUMENT, 0, 1000, 0, "setPatience", 0);
        run.pulls(0, 1000);
        run.is(0, "delay");
        run.is(1000, "setPatience", 0);
        run.pulls(0, 1);
        run.is(1, "delay");
    }

    private static void done() {
        Run run = Bounds.of(44, "Returns how many rows of the ringing are done; NONE if none is on");
        run.is(NONE, "done");
        run.rings(0, 1, 100);
        for (int row = 0; row < 8; row++) {
            run.is(row, "done");
            run.pullsOnTime(0, 1);
        }
        run.is(NONE, "done");
        run.is(0, "ring", 1, 1, 100);
        run.is(0, "done");
        run.does("stand");
        run.is(NONE, "done");
        run.is(10, "ring", 1, 0, 100);
        run.is(NONE, "done");
    }

    private static void delay() {
        Run run = Bounds.of(45, "Returns the delay of the ringing; 0 if none is on");
        run.is(0, "delay");
        run.rings(0, 1, 100);
        run.is(0, "delay");
        run.pulls(0, 200);
        run.is(0, "delay");
        run.pulls(0, 201);
        run.is(1, "delay");
        run.pulls(0, 1000);
        run.is(801, "delay");
        for (int row = 3; row < 8; row++) {
            run.is(801, "delay");
            run.pulls(0, 0);
        }
        run.is(0, "delay");
    }

    private static void late() {
        BellBounds.bellIsThere(Bounds.of(46, "`bell`: 0 to 5", "if there is no such bell"), 0, "late", 0);
        Run run = Bounds.of(46, "Returns how many pulls of a bell were late, in all ringings");
        run.rings(0, 1, 100);
        int[] errors = {25, 26, -26, 1000, 0, -25, 27, 25};
        int[] lates = {0, 1, 1, 2, 2, 2, 3, 3};
        countsInAllRingings(run, "late", errors, lates);
        run.pulls(0, 26);
        run.is(4, "late", 0);
    }

    private static void early() {
        BellBounds.bellIsThere(Bounds.of(47, "`bell`: 0 to 5", "if there is no such bell"), 0, "early", 0);
        Run run = Bounds.of(47, "Returns how many pulls of a bell were early, in all ringings");
        run.rings(0, 1, 100);
        int[] errors = {-25, -26, 26, -500, 0, 25, -27, -25};
        int[] earlies = {0, 1, 1, 2, 2, 2, 3, 3};
        countsInAllRingings(run, "early", errors, earlies);
        run.pulls(0, -26);
        run.is(4, "early", 0);
    }

    /** Pulls to the end of a ringing, and stands in the next one, which is begun anew then. */
    private static void countsInAllRingings(Run run, String name, int[] errors, int[] due) {
        for (int row = 0; row < errors.length; row++) {
            run.pulls(0, errors[row]);
            run.is(due[row], name, 0);
        }
        run.is(0, "isRinging");
        run.is(due[7], name, 0);
        run.is(0, name, 1);
        run.does("ring", 1, 1, 100);
        run.is(due[7], name, 0);
        run.does("stand");
        run.is(due[7], name, 0);
        run.does("ring", 1, 1, 100);
    }

    private static void errors() {
        BellBounds.bellIsThere(Bounds.of(48, "`bell`: 0 to 5", "if there is no such bell"), 0, "errors", 0);
        Run run = Bounds.of(48, "Returns the sum of the errors of all pulls of a bell, in all ringings");
        run.rings(0, 1, 100);
        int[] errors = {-100, 99, 1, 0, 500, -3, 200, -200};
        int[] sums = {-100, -1, 0, 0, 500, 497, 697, 497};
        countsInAllRingings(run, "errors", errors, sums);
        run.pulls(0, -100);
        run.is(397, "errors", 0);
        run.is(0, "errors", 5);
    }

    private static void wrong() {
        Run run = Bounds.of(49, "Returns how many rows were wrong, in all ringings");
        run.is(0, "wrong");
        run.rings(0, 1, 100);
        run.pullsOnTime(0, 1);
        run.is(0, "wrong");
        run.pulls(0, -100);
        run.is(1, "wrong");
        run.pulls(0, -99);
        run.is(1, "wrong");
        run.does("stand");
        run.is(1, "wrong");
        run.is(0, "ring", 1, 3, 100);
        run.pulls(0, -100);
        run.is(1, "wrong");
        run.pulls(1, 0);
        run.is(2, "wrong");
        run.does("stand");
        run.is(12, "ring", 2, 0, 100);
        run.is(2, "wrong");
        run.does("pass");
        run.is(2, "wrong");
    }

    private static void rung() {
        Run run = Bounds.of(50, "Returns how many touches were rung to their end");
        run.is(0, "rung");
        run.rings(0, 1, 100);
        run.pullsOnTime(0, 7);
        run.is(0, "rung");
        run.does("stand");
        run.is(0, "rung");
        run.is(0, "ring", 0, 1, 100);
        run.pullsOnTime(0, 8);
        run.is(1, "rung");
        run.does("ring", 1, 0, 100);
        run.is(2, "rung");
        run.does("plan", 0, 0);
        run.does("ring", 0, 0, 100);
        run.is(3, "rung");
        run.does("pass");
        run.is(3, "rung");
    }

    private static void latest() {
        Run run = Bounds.of(51, "Returns the touch that was rung to its end latest; NONE if none was");
        run.is(NONE, "latest");
        run.rings(0, 1, 100);
        run.pullsOnTime(0, 7);
        run.is(NONE, "latest");
        run.does("stand");
        run.is(NONE, "latest");
        run.does("ring", 0, 0, 100);
        run.is(0, "latest");
        run.does("ring", 3, 1, 100);
        run.is(0, "latest");
        run.pullsOnTime(0, 8);
        run.is(3, "latest");
        run.does("ring", 1, 1, 100);
        run.does("stand");
        run.is(3, "latest");
        run.does("pass");
        run.is(3, "latest");
    }
}
