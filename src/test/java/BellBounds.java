/** Promises 25 to 29, and the terms "Bells". */
final class BellBounds {
    private static final String INDEX = Run.INDEX;
    private static final String ARGUMENT = Run.ARGUMENT;
    private static final String STATE = Run.STATE;
    private static final int ROPE = GrandsireLoft.ROPE;
    private static final int CLAPPER = GrandsireLoft.CLAPPER;

    private BellBounds() {
    }

    static void all() {
        wearAtFirst();
        strokes();
        ropeAt300();
        ropeAbove300();
        clapperAt200();
        wornOutWhenARowIsDone();
        wornOutWhenARingingEnds();
        outAndIn();
        bellsOfATouch();
        takeOut();
        takeOutInARinging();
        takeOutTellsWhatIsDropped();
        bringIn();
        mend();
        mendInARinging();
        wearAndIsIn();
    }

    /** A call whose first argument is a bell is refused for -1 and 6, and answers for 0 and 5. */
    static void bellIsThere(Run run, long due, String name, int... arguments) {
        run.refusesBeyond(INDEX, 0, 5, 0, name, arguments);
        int[] last = arguments.clone();
        last[0] = 5;
        run.is(due, name, arguments);
        run.is(due, name, last);
        run.refusesBeyond(INDEX, 0, 5, 0, name, arguments);
    }

    /** Three courses of the minor by the trainer: ropes at 270, clappers at 180. The touch 1 is planned for today. */
    static void nearlyWorn(Run run) {
        run.minor();
        run.touch(0, "00000");
        run.touch(0, "00000");
        for (int ringing = 0; ringing < 3; ringing++) {
            run.does("plan", 0, ringing % 2);
            run.is(60, "ring", ringing % 2, 0, 100);
        }
        run.does("plan", 0, 1);
        run.is(270, "wear", 0, ROPE);
        run.is(180, "wear", 5, CLAPPER);
    }

    static void renew(Run run, int part) {
        for (int bell = 0; bell <= 5; bell++) {
            run.does("mend", bell, part);
        }
    }

    private static void allAre(Run run, int in) {
        for (int bell = 0; bell <= 5; bell++) {
            run.is(in, "isIn", bell);
        }
    }

    // ---- terms

    private static void wearAtFirst() {
        Run run = Bounds.of("Bells", "each with some wear, 0 at first");
        for (int bell = 0; bell <= 5; bell++) {
            run.is(0, "wear", bell, ROPE);
            run.is(0, "wear", bell, CLAPPER);
            run.is(0, "mend", bell, ROPE);
            run.is(0, "mend", bell, CLAPPER);
        }
        run.rings(2, 1, 100);
        run.is(0, "wear", 0, ROPE);
        run.pullsOnTime(0, 1);
        run.is(1, "wear", 0, ROPE);
        run.is(1, "wear", 5, CLAPPER);
    }

    private static void strokes() {
        Run run = Bounds.of("Bells", "in a row with an even number is a handstroke, with an odd one a backstroke")
                .also("Bells", "A handstroke adds 1 to the wear of the rope, a backstroke 2");
        run.rings(0, 9, 100);
        int[] ropes = {1, 3, 4, 6, 7, 9, 10, 12};
        for (int row = 0; row < 8; row++) {
            run.pullsOnTime(0, 1);
            run.is(ropes[row], "wear", 0, ROPE);
            run.is(row + 1, "wear", 0, CLAPPER);
            run.is(row == 0 ? 0 : ropes[row - 1], "wear", 1, ROPE);
            run.pullsOnTime(3, 1);
            run.is(ropes[row], "wear", 3, ROPE);
            run.is(ropes[row], "wear", 1, ROPE);
            run.is(row + 1, "wear", 2, CLAPPER);
            run.is(0, "wear", 4, ROPE);
        }
        // the first row of the next ringing is a handstroke again
        run.is(0, "ring", 1, 1, 100);
        run.pullsOnTime(0, 1);
        run.is(13, "wear", 0, ROPE);
        run.is(1, "wear", 4, ROPE);
        run.is(0, "wear", 5, CLAPPER);
    }

    private static void ropeAt300() {
        Run run = Bounds.of("Bells", "A rope whose wear is 300 or more", "until there is a new one");
        nearlyWorn(run);
        renew(run, CLAPPER);
        run.is(0, "ring", 1, 1, 100);
        run.pullsOnTime(0, 19);
        run.is(298, "wear", 0, ROPE);
        run.is(298, "wear", 5, ROPE);
        run.is(19, "stand");
        allAre(run, 1);
        run.is(0, "ring", 1, 1, 100);
        run.pullsOnTime(0, 1);
        run.is(299, "wear", 0, ROPE);
        run.is(1, "isRinging");
        allAre(run, 1);
        run.is(1, "stand");
        allAre(run, 1);
        run.is(0, "ring", 1, 1, 100);
        run.pullsOnTime(0, 1);
        run.is(300, "wear", 0, ROPE);
        run.is(300, "wear", 5, ROPE);
        run.is(0, "isRinging");
        allAre(run, 0);
        run.is(300, "mend", 0, ROPE);
        run.is(1, "isIn", 0);
        run.does("mend", 1, CLAPPER);
        run.is(0, "isIn", 1);
        run.refuses(STATE, "plan", 0, 1);
        renew(run, ROPE);
        allAre(run, 1);
        run.is(1, "plan", 0, 1);
    }

    private static void ropeAbove300() {
        Run run = Bounds.of("Bells", "A rope whose wear is 300 or more");
        nearlyWorn(run);
        renew(run, CLAPPER);
        run.is(0, "ring", 1, 1, 100);
        run.pullsOnTime(0, 19);
        run.is(19, "stand");
        run.is(0, "ring", 1, 1, 100);
        run.pullsOnTime(0, 1);
        run.is(299, "wear", 3, ROPE);
        run.is(1, "isRinging");
        run.pullsOnTime(0, 1);
        run.is(301, "wear", 3, ROPE);
        run.is(0, "isRinging");
        allAre(run, 0);
        run.is(301, "mend", 3, ROPE);
        run.is(1, "isIn", 3);
    }

    private static void clapperAt200() {
        Run run = Bounds.of("Bells", "and a clapper whose wear is 200 or more");
        nearlyWorn(run);
        renew(run, ROPE);
        run.is(0, "ring", 1, 1, 100);
        run.pullsOnTime(0, 19);
        run.is(199, "wear", 0, CLAPPER);
        run.is(199, "wear", 5, CLAPPER);
        run.is(1, "isRinging");
        allAre(run, 1);
        run.is(19, "stand");
        allAre(run, 1);
        run.is(0, "ring", 1, 1, 100);
        run.pullsOnTime(0, 1);
        run.is(200, "wear", 0, CLAPPER);
        run.is(0, "isRinging");
        allAre(run, 0);
        renew(run, ROPE);
        allAre(run, 0);
        run.is(200, "mend", 4, CLAPPER);
        run.is(1, "isIn", 4);
        run.is(0, "isIn", 5);
        run.is(0, "wear", 4, CLAPPER);
    }

    private static void wornOutWhenARowIsDone() {
        Run run = Bounds.of("Bells", "when a row is done or a ringing ends, is worn out from then on");
        nearlyWorn(run);
        renew(run, ROPE);
        run.is(0, "ring", 1, 3, 100);
        run.pullsOnTime(0, 21);
        run.is(201, "wear", 0, CLAPPER);
        run.is(1, "isIn", 0);
        run.is(1, "isRinging");
        run.is(0, "done");
        run.is(1, "plan", 1, 0);
        run.pullsOnTime(1, 1);
        run.is(0, "isIn", 0);
        run.is(1, "isIn", 1);
        run.is(0, "isRinging");
        run.is(181, "wear", 2, CLAPPER);
        run.is(0, "planned", 1);
        run.is(2, "dropped");
    }

    private static void wornOutWhenARingingEnds() {
        Run run = Bounds.of("Bells", "when a row is done or a ringing ends, is worn out from then on");
        nearlyWorn(run);
        renew(run, ROPE);
        run.is(0, "ring", 1, 3, 100);
        run.pullsOnTime(0, 19);
        run.is(0, "stand");
        run.is(1, "isIn", 0);
        run.is(0, "ring", 1, 3, 100);
        run.pullsOnTime(0, 1);
        run.is(200, "wear", 0, CLAPPER);
        run.is(1, "isIn", 0);
        run.is(0, "dropped");
        run.is(0, "stand");
        run.is(0, "isIn", 0);
        run.is(1, "dropped");
        run.is(0, "planned", 0);
        run.is(200, "mend", 0, CLAPPER);
        run.is(1, "isIn", 0);
    }

    private static void outAndIn() {
        Run run = Bounds.of("Bells", "A bell is out if it was taken out by hand");
        TouchBounds.longest(run);
        run.is(1, "plan", 0, 0);
        // 100 handstrokes and 100 backstrokes wear both parts out at once
        run.is(200, "ring", 0, 0, 100);
        run.is(300, "wear", 0, ROPE);
        run.is(200, "wear", 0, CLAPPER);
        allAre(run, 0);
        run.does("mend", 0, ROPE);
        run.is(0, "isIn", 0);
        run.does("mend", 0, CLAPPER);
        run.is(1, "isIn", 0);
        run.does("mend", 1, CLAPPER);
        run.is(0, "isIn", 1);
        run.is(0, "takeOut", 1);
        run.does("mend", 1, ROPE);
        run.is(0, "isIn", 1);
        run.is(1, "bringIn", 1);
        run.is(1, "isIn", 1);
        run.is(0, "takeOut", 2);
        run.is(0, "bringIn", 2);
        run.is(0, "isIn", 2);
    }

    private static void bellsOfATouch() {
        Run run = Bounds.of("Bells", "A touch needs the bells below its stage");
        run.hunts();
        for (int touch = 0; touch < 3; touch++) {
            int stage = 4 + touch;
            boolean hasBellAbove = stage <= 5;
            if (hasBellAbove) {
                run.is(0, "takeOut", stage);
            }
            run.is(1, "plan", touch, touch);
            if (hasBellAbove) {
                run.is(1, "bringIn", stage);
            }
            run.is(1, "takeOut", stage - 1);
            run.refuses(STATE, "plan", touch, touch);
            run.is(1, "bringIn", stage - 1);
            run.is(0, "planned", touch);
            run.is(0, "takeOut", 0);
            run.refuses(STATE, "plan", touch, touch);
            run.is(1, "bringIn", 0);
        }
        for (int touch = 0; touch < 3; touch++) {
            run.is(1, "plan", touch, touch);
        }
        run.is(1, "takeOut", 5);
        run.is(1, "takeOut", 4);
        run.is(1, "takeOut", 3);
    }

    // ---- promises

    private static void takeOut() {
        bellIsThere(Bounds.of(25, "`bell`: 0 to 5", "if there is no such bell"), 0, "takeOut", 0);

        Run run = Bounds.of(25, "Takes a bell out by hand", "if it was taken out by hand already");
        for (int bell = 0; bell <= 5; bell++) {
            run.is(1, "isIn", bell);
            run.is(0, "takeOut", bell);
            run.is(0, "isIn", bell);
            run.refuses(STATE, "takeOut", bell);
        }
        run.is(1, "bringIn", 3);
        run.is(0, "takeOut", 3);
        run.refuses(STATE, "takeOut", 3);
    }

    private static void takeOutInARinging() {
        Run run = Bounds.of(25, "or a ringing is on");
        run.rings(0, 1, 100);
        run.refuses(STATE, "takeOut", 0);
        run.refuses(STATE, "takeOut", 5);
        run.is(0, "stand");
        run.is(1, "takeOut", 5);
        run.is(0, "ring", 0, 1, 100);
        run.refuses(STATE, "takeOut", 5);
        run.refuses(STATE, "takeOut", 4);
        run.pullsOnTime(0, 7);
        run.refuses(STATE, "takeOut", 4);
        run.pullsOnTime(0, 1);
        run.is(1, "takeOut", 4);
        run.is(1, "takeOut", 0);
    }

    private static void takeOutTellsWhatIsDropped() {
        Run run = Bounds.of(25, "Returns from how many days touches are dropped by that, each touch counted");
        run.hunts();
        for (int day : new int[] {0, 1, 59, 60}) {
            for (int touch = 0; touch < 4; touch++) {
                run.does("plan", day, touch);
            }
        }
        run.does("pass");
        run.is(3, "takeOut", 5);
        run.is(1, "bringIn", 5);
        run.is(0, "takeOut", 5);
        run.is(3, "takeOut", 4);
        run.is(6, "takeOut", 0);
        run.is(0, "takeOut", 1);
        run.is(0, "planned", 60);
        run.is(12, "dropped");
    }

    private static void bringIn() {
        Run range = Bounds.of(26, "`bell`: 0 to 5", "if there is no such bell");
        range.does("takeOut", 0);
        range.does("takeOut", 5);
        bellIsThere(range, 1, "bringIn", 0);

        Run hand = Bounds.of(26, "Brings a bell in that was taken out by hand", "if it was not taken out by hand");
        hand.refuses(STATE, "bringIn", 2);
        hand.does("takeOut", 2);
        hand.refuses(STATE, "bringIn", 1);
        hand.refuses(STATE, "bringIn", 3);
        hand.is(1, "bringIn", 2);
        hand.is(1, "isIn", 2);
        hand.refuses(STATE, "bringIn", 2);

        Run worn = Bounds.of(26, "Returns whether it is in then");
        nearlyWorn(worn);
        worn.is(20, "ring", 1, 0, 100);
        worn.is(200, "wear", 0, CLAPPER);
        worn.is(0, "takeOut", 0);
        worn.is(0, "bringIn", 0);
        worn.refuses(STATE, "bringIn", 0);
        worn.refuses(STATE, "bringIn", 1);
        worn.does("takeOut", 0);
        worn.does("mend", 0, ROPE);
        worn.does("mend", 0, CLAPPER);
        worn.is(0, "isIn", 0);
        worn.is(1, "bringIn", 0);
        worn.refuses(STATE, "bringIn", 0);
    }

    private static void mend() {
        bellIsThere(Bounds.of(27, "`bell`: 0 to 5", "if there is no such bell"), 0, "mend", 0, ROPE);

        Run part = Bounds.of(27, "`part`: ROPE or CLAPPER", "if part is out of range");
        part.rings(2, 0, 100);
        part.refusesBeyond(ARGUMENT, ROPE, CLAPPER, 1, "mend", 5, ROPE);
        part.is(18, "mend", 5, ROPE);
        part.is(12, "mend", 5, CLAPPER);

        Run wear = Bounds.of(27, "Puts a new part into a bell", "Returns the wear of the old one");
        wear.is(0, "mend", 0, CLAPPER);
        wear.rings(0, 0, 100);
        wear.is(12, "mend", 0, ROPE);
        wear.is(0, "wear", 0, ROPE);
        wear.is(8, "wear", 0, CLAPPER);
        wear.is(12, "wear", 1, ROPE);
        wear.is(0, "mend", 0, ROPE);
        wear.is(8, "mend", 0, CLAPPER);
        wear.is(0, "wear", 0, CLAPPER);
        wear.is(8, "wear", 1, CLAPPER);
    }

    private static void mendInARinging() {
        Run run = Bounds.of(27, "Throws `IllegalStateException` if a ringing is on");
        run.rings(0, 1, 100);
        run.refuses(STATE, "mend", 0, ROPE);
        run.refuses(STATE, "mend", 5, CLAPPER);
        run.pullsOnTime(0, 2);
        run.refuses(STATE, "mend", 0, ROPE);
        run.is(2, "stand");
        run.is(3, "mend", 0, ROPE);
        run.is(0, "ring", 0, 1, 100);
        run.pullsOnTime(0, 7);
        run.refuses(STATE, "mend", 1, CLAPPER);
        run.pullsOnTime(0, 1);
        run.is(10, "mend", 1, CLAPPER);
    }

    private static void wearAndIsIn() {
        bellIsThere(Bounds.of(28, "`bell`: 0 to 5", "if there is no such bell"), 0, "wear", 0, CLAPPER);
        bellIsThere(Bounds.of(29, "`bell`: 0 to 5", "if there is no such bell"), 1, "isIn", 0);

        Run part = Bounds.of(28, "`part`: ROPE or CLAPPER", "if part is out of range", "Returns the wear of a part");
        part.rings(0, 0, 100);
        part.refusesBeyond(ARGUMENT, ROPE, CLAPPER, 1, "wear", 0, ROPE);
        part.is(12, "wear", 0, ROPE);
        part.is(8, "wear", 0, CLAPPER);
        part.is(12, "wear", 3, ROPE);
        part.is(0, "wear", 4, ROPE);

        Run in = Bounds.of(29, "Tells whether a bell is in");
        in.is(1, "isIn", 0);
        in.does("takeOut", 0);
        in.is(0, "isIn", 0);
        in.is(1, "isIn", 1);
        in.does("bringIn", 0);
        in.is(1, "isIn", 0);
    }
}
