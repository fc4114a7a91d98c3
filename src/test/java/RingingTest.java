/** Promises 38 to 51: ringing. */
public final class RingingTest {
    private static final int NONE = GrandsireLoft.NONE;
    private static final int LATEST_TIME = 2000000000;

    private static final Check CHECK = new Check("RingingTest");

    public static void main(String[] args) {
        ringByTheTrainer();
        ringRefusesArguments();
        ringRefusesAStage();
        ringRefusesAState();
        ringBeginsAnew();
        notTheLatest();
        stand();
        dueOnFour();
        dueOnFiveAndSix();
        pullRefuses();
        pullInAllRows();
        rowsAreDoneByPulls();
        allBellsByPeople();
        lateAndEarly();
        lateAndEarlyRefuse();
        patience();
        patienceOfNow();
        delayMovesWhatIsDue();
        delayMovesTheTrainer();
        greatestDelay();
        greatestSumOfErrors();
        leastSumOfErrors();
        wrongRows();
        wrongGoesByThePlaces();
        rungToTheEnd();
        CHECK.end();
    }

    /** Plain hunt: 0 on four, 1 on five, 2 on six, 3 on four again; the first three planned for today. */
    private static GrandsireLoft hunts() {
        GrandsireLoft loft = new GrandsireLoft();
        Lofts.plainTouch(loft, Lofts.hunt(loft), 4);
        Lofts.plainTouch(loft, Lofts.huntOfFive(loft), 5);
        Lofts.plainTouch(loft, Lofts.method(loft, 6, 0, 33), 6);
        Lofts.plainTouch(loft, 0, 4);
        for (int touch = 0; touch < 3; touch++) {
            loft.plan(0, touch);
        }
        return loft;
    }

    private static GrandsireLoft ringing(int touch, int people, int gap) {
        GrandsireLoft loft = hunts();
        CHECK.same("ring(" + touch + ", " + people + ", " + gap + ")", 0, loft.ring(touch, people, gap));
        return loft;
    }

    private static void ringByTheTrainer() {
        GrandsireLoft loft = hunts();
        CHECK.same("ring(0, 0, 100)", 8, loft.ring(0, 0, 100));
        CHECK.no("isRinging() behind it", loft.isRinging());
        CHECK.same("done() behind it", NONE, loft.done());
        CHECK.same("ring(1, 0, 1000)", 10, loft.ring(1, 0, 1000));
        CHECK.same("ring(2, 0, 333)", 12, loft.ring(2, 0, 333));
        CHECK.same("rung()", 3, loft.rung());
        CHECK.same("latest()", 2, loft.latest());
        CHECK.same("wrong(): the trainer is never wrong", 0, loft.wrong());
        for (int bell = 0; bell < 6; bell++) {
            CHECK.same("late of the trainer's bell", 0, loft.late(bell));
            CHECK.same("early of the trainer's bell", 0, loft.early(bell));
            CHECK.same("errors of the trainer's bell", 0, loft.errors(bell));
        }
    }

    private static void ringRefusesArguments() {
        GrandsireLoft loft = hunts();
        CHECK.noIndex("ring(4, 0, 100)", () -> loft.ring(4, 0, 100));
        CHECK.noIndex("ring(-1, -1, 99)", () -> loft.ring(-1, -1, 99));
        CHECK.noArgument("ring(0, -1, 100)", () -> loft.ring(0, -1, 100));
        CHECK.noArgument("ring(0, 16, 100)", () -> loft.ring(0, 16, 100));
        CHECK.noArgument("ring(1, 32, 100)", () -> loft.ring(1, 32, 100));
        CHECK.noArgument("ring(2, 64, 100)", () -> loft.ring(2, 64, 100));
        CHECK.noArgument("ring(0, 1, 99)", () -> loft.ring(0, 1, 99));
        CHECK.noArgument("ring(0, 1, 1001)", () -> loft.ring(0, 1, 1001));
        CHECK.noArgument("ring(3, 16, 100) of what is not planned", () -> loft.ring(3, 16, 100));
        CHECK.noArgument("ring(3, 0, 99) of what is not planned", () -> loft.ring(3, 0, 99));
        CHECK.no("isRinging() behind refusals", loft.isRinging());
        CHECK.same("ring(0, 15, 100)", 0, loft.ring(0, 15, 100));
        loft.stand();
        CHECK.same("ring(1, 31, 1000)", 0, loft.ring(1, 31, 1000));
        loft.stand();
        CHECK.same("ring(2, 63, 100)", 0, loft.ring(2, 63, 100));
    }

    private static void ringRefusesAStage() {
        GrandsireLoft loft = hunts();
        for (int band = 0; band < 4; band++) {
            loft.setBand(band, 5);
        }
        CHECK.noState("ring when today has no band", () -> loft.ring(0, 0, 100));
        loft.setBand(2, 6);
        CHECK.same("ring when the band 2 is great enough", 8, loft.ring(0, 0, 100));
        loft.setBand(2, 4);
        CHECK.noState("ring with the band of today too small", () -> loft.ring(1, 0, 100));
        loft.setBand(2, 5);
        CHECK.same("ring with the band of today just great enough", 10, loft.ring(1, 0, 100));
        CHECK.noState("ring on six with a band of five", () -> loft.ring(2, 0, 100));
    }

    private static void ringRefusesAState() {
        GrandsireLoft loft = hunts();
        loft.plan(1, 3);
        CHECK.noState("ring of what is planned for tomorrow", () -> loft.ring(3, 0, 100));
        loft.ring(0, 1, 100);
        CHECK.noState("ring in a ringing", () -> loft.ring(1, 0, 100));
        CHECK.noState("ring of the same in a ringing", () -> loft.ring(0, 1, 100));
        CHECK.noArgument("ring with no gap in a ringing", () -> loft.ring(1, 0, 1001));
        CHECK.noIndex("ring of no touch in a ringing", () -> loft.ring(4, 0, 100));
        CHECK.same("done() behind refusals", 0, loft.done());
        loft.stand();
        loft.pass();
        CHECK.noState("ring of what was planned for yesterday", () -> loft.ring(0, 0, 100));
        CHECK.same("ring of what is planned for today", 8, loft.ring(3, 0, 100));
    }

    private static void ringBeginsAnew() {
        GrandsireLoft loft = ringing(0, 3, 100);
        loft.pull(0, 5000);
        loft.pull(0, 5000);
        loft.pull(1, 5000);
        CHECK.same("delay() of the first ringing", 4800, loft.delay());
        CHECK.same("done() of the first ringing", 1, loft.done());
        loft.stand();
        CHECK.same("delay() between", 0, loft.delay());
        CHECK.same("done() between", NONE, loft.done());
        CHECK.same("ring again", 0, loft.ring(0, 1, 200));
        CHECK.same("delay() at first", 0, loft.delay());
        CHECK.same("done() at first", 0, loft.done());
        CHECK.same("due(0) at first", 200, loft.due(0));
        CHECK.noState("due(1), now by the trainer", () -> loft.due(1));
        CHECK.same("pull(0, 200)", 0, loft.pull(0, 200));
        CHECK.same("done() behind the pull", 1, loft.done());
        CHECK.same("due(0) of the next row", 1200, loft.due(0));
    }

    private static void notTheLatest() {
        GrandsireLoft loft = hunts();
        loft.ring(0, 0, 100);
        CHECK.same("plan of the latest", 3, loft.plan(0, 0));
        CHECK.noState("ring of the latest", () -> loft.ring(0, 0, 100));
        loft.ring(1, 1, 100);
        loft.stand();
        CHECK.noState("ring of the latest, another being stopped", () -> loft.ring(0, 0, 100));
        loft.ring(1, 0, 100);
        CHECK.same("ring of what is not the latest any more", 8, loft.ring(0, 0, 100));
        CHECK.same("rung()", 3, loft.rung());
        loft.plan(0, 1);
        CHECK.same("ring of the one before", 10, loft.ring(1, 0, 100));
        loft.pass();
        loft.plan(1, 1);
        CHECK.noState("ring of the latest on another day", () -> loft.ring(1, 0, 100));
    }

    private static void stand() {
        GrandsireLoft loft = hunts();
        CHECK.noState("stand() with no ringing on", () -> loft.stand());
        loft.ring(0, 1, 100);
        CHECK.yes("isRinging()", loft.isRinging());
        for (int row = 0; row < 3; row++) {
            loft.pull(0, loft.due(0));
        }
        CHECK.same("stand() behind three rows", 3, loft.stand());
        CHECK.no("isRinging() behind stand()", loft.isRinging());
        CHECK.noState("stand() again", () -> loft.stand());
        CHECK.noState("pull behind stand()", () -> loft.pull(0, 100));
        CHECK.same("rung()", 0, loft.rung());
        CHECK.same("latest()", NONE, loft.latest());
        CHECK.same("planned(0)", 3, loft.planned(0));
        CHECK.same("ring again", 8, loft.ring(0, 0, 100));
        CHECK.noState("stand() behind the end", () -> loft.stand());
    }

    private static void dueOnFour() {
        GrandsireLoft loft = ringing(0, 9, 100);
        int[] first = {100, 600, 1200, 1600, 2000, 2300, 2700, 3100};
        int[] last = {200, 500, 900, 1300, 1900, 2400, 3000, 3400};
        for (int row = 0; row < 8; row++) {
            CHECK.same("due(0) in the row " + row, first[row], loft.due(0));
            CHECK.same("pull(0) in the row " + row, row - 5, loft.pull(0, first[row] + row - 5));
        }
        CHECK.noState("due(0) behind all rows", () -> loft.due(0));
        for (int row = 0; row < 8; row++) {
            CHECK.same("due(3) in the row " + row, last[row], loft.due(3));
            CHECK.same("done() ahead of it", row, loft.done());
            loft.pull(3, last[row]);
        }
        CHECK.noState("due(3) behind the end", () -> loft.due(3));
        CHECK.noIndex("due(-1)", () -> loft.due(-1));
        CHECK.noIndex("due(6)", () -> loft.due(6));
    }

    private static void dueOnFiveAndSix() {
        GrandsireLoft loft = ringing(1, 17, 333);
        // 10324 13042 31402: the gaps are 5 and 6 behind one another, as a backstroke is behind a handstroke
        int[] onFive = {333, 7 * 333, 14 * 333};
        int[] lastOnFive = {4 * 333, 8 * 333, 13 * 333};
        for (int row = 0; row < 3; row++) {
            CHECK.same("due(0) on five", onFive[row], loft.due(0));
            CHECK.same("due(4) on five", lastOnFive[row], loft.due(4));
            loft.pull(0, onFive[row]);
            loft.pull(4, lastOnFive[row]);
        }
        CHECK.noState("due(5) above the stage", () -> loft.due(5));
        CHECK.noState("due(1) by the trainer", () -> loft.due(1));
        loft.stand();
        CHECK.noState("due(0) with no ringing on", () -> loft.due(0));
        loft.ring(2, 32, 1000);
        // 103254 130524 315042
        int[] onSix = {4000, 9000, 15000};
        for (int due : onSix) {
            CHECK.same("due(5) on six", due, loft.due(5));
            loft.pull(5, due);
        }
    }

    private static void pullRefuses() {
        GrandsireLoft loft = hunts();
        CHECK.noState("pull with no ringing on", () -> loft.pull(0, 100));
        CHECK.noArgument("pull(0, -1) with no ringing on", () -> loft.pull(0, -1));
        CHECK.noIndex("pull(6, -1) with no ringing on", () -> loft.pull(6, -1));
        loft.ring(0, 1, 100);
        CHECK.noIndex("pull(-1, 0)", () -> loft.pull(-1, 0));
        CHECK.noIndex("pull(6, 0)", () -> loft.pull(6, 0));
        CHECK.noArgument("pull(0, -1)", () -> loft.pull(0, -1));
        CHECK.noArgument("pull past all times", () -> loft.pull(0, LATEST_TIME + 1));
        CHECK.noArgument("pull past all times of the trainer's bell", () -> loft.pull(1, LATEST_TIME + 1));
        CHECK.noState("pull of the trainer's bell", () -> loft.pull(1, 0));
        CHECK.noState("pull above the stage", () -> loft.pull(4, 0));
        CHECK.noState("due of the trainer's bell", () -> loft.due(1));
        CHECK.same("done() behind refusals", 0, loft.done());
        CHECK.same("wear behind refusals", 0, loft.wear(1, GrandsireLoft.ROPE));
        CHECK.same("due(0) behind refusals", 100, loft.due(0));
        CHECK.same("pull(0, 0)", -100, loft.pull(0, 0));
    }

    private static void pullInAllRows() {
        GrandsireLoft loft = ringing(0, 5, 100);
        for (int row = 0; row < 8; row++) {
            loft.pull(2, loft.due(2));
        }
        CHECK.noState("a ninth pull", () -> loft.pull(2, 5000));
        CHECK.noState("due of a ninth pull", () -> loft.due(2));
        CHECK.noArgument("a ninth pull at no time", () -> loft.pull(2, -1));
        CHECK.same("done() with the other bell still to come", 0, loft.done());
        CHECK.same("wear behind all pulls", 12, loft.wear(2, GrandsireLoft.ROPE));
        CHECK.same("errors behind all pulls", 0, loft.errors(2));
        CHECK.yes("isRinging()", loft.isRinging());
    }

    private static void rowsAreDoneByPulls() {
        GrandsireLoft loft = ringing(0, 3, 100);
        loft.pull(0, 100);
        loft.pull(0, 600);
        CHECK.same("done() with one bell ahead", 0, loft.done());
        loft.pull(1, 0);
        CHECK.same("done() of one row", 1, loft.done());
        loft.pull(1, 400);
        CHECK.same("done() of two rows", 2, loft.done());
        loft.pull(1, 1000);
        CHECK.same("done() with the other bell ahead", 2, loft.done());
        loft.pull(0, 1200);
        CHECK.same("done() of three rows", 3, loft.done());
        CHECK.same("delay()", 0, loft.delay());
        CHECK.same("wrong()", 0, loft.wrong());
        CHECK.same("stand()", 3, loft.stand());
    }

    private static void allBellsByPeople() {
        GrandsireLoft loft = ringing(0, 15, 100);
        for (int row = 0; row < 8; row++) {
            for (int bell = 3; bell >= 0; bell--) {
                CHECK.same("done() within a row", row, loft.done());
                CHECK.same("pull on time", 0, loft.pull(bell, loft.due(bell)));
            }
        }
        CHECK.no("isRinging() behind all rows", loft.isRinging());
        CHECK.same("rung()", 1, loft.rung());
        CHECK.same("wrong()", 0, loft.wrong());
        CHECK.same("wear by people", 12, loft.wear(3, GrandsireLoft.ROPE));
    }

    private static void told(GrandsireLoft loft, int bell, int late, int early, int errors) {
        CHECK.same("late(" + bell + ")", late, loft.late(bell));
        CHECK.same("early(" + bell + ")", early, loft.early(bell));
        CHECK.same("errors(" + bell + ")", errors, loft.errors(bell));
    }

    private static void lateAndEarly() {
        // a quarter of 103 is 25, rounded down
        GrandsireLoft loft = ringing(0, 3, 103);
        int[] errors = {25, 26, -25, -26, 0, 1, -1};
        int[] lates = {0, 1, 1, 1, 1, 1, 1};
        int[] earlies = {0, 0, 0, 1, 1, 1, 1};
        int sum = 0;
        for (int row = 0; row < errors.length; row++) {
            CHECK.same("pull in the row " + row, errors[row], loft.pull(0, loft.due(0) + errors[row]));
            sum += errors[row];
            told(loft, 0, lates[row], earlies[row], sum);
        }
        CHECK.same("delay() of small errors", 0, loft.delay());
        loft.pull(1, 26);
        told(loft, 1, 1, 0, 26);
        loft.stand();
        loft.ring(1, 1, 100);
        loft.pull(0, 126);
        told(loft, 0, 2, 1, 26);
        loft.pull(0, 674);
        told(loft, 0, 2, 2, 0);
        loft.stand();
        loft.pass();
        told(loft, 0, 2, 2, 0);
        told(loft, 1, 1, 0, 26);
        told(loft, 5, 0, 0, 0);
    }

    private static void lateAndEarlyRefuse() {
        GrandsireLoft loft = new GrandsireLoft();
        CHECK.noIndex("late(-1)", () -> loft.late(-1));
        CHECK.noIndex("late(6)", () -> loft.late(6));
        CHECK.noIndex("early(-1)", () -> loft.early(-1));
        CHECK.noIndex("early(6)", () -> loft.early(6));
        CHECK.noIndex("errors(-1)", () -> loft.errors(-1));
        CHECK.noIndex("errors(6)", () -> loft.errors(6));
    }

    private static void patience() {
        GrandsireLoft loft = new GrandsireLoft();
        CHECK.noArgument("setPatience(-1)", () -> loft.setPatience(-1));
        CHECK.noArgument("setPatience(1001)", () -> loft.setPatience(1001));
        CHECK.same("setPatience(0)", 200, loft.setPatience(0));
        CHECK.same("setPatience(1000)", 0, loft.setPatience(1000));
        CHECK.noArgument("setPatience(1001) again", () -> loft.setPatience(1001));
        CHECK.same("setPatience(200)", 1000, loft.setPatience(200));
    }

    private static void patienceOfNow() {
        GrandsireLoft loft = ringing(0, 1, 100);
        CHECK.same("an error as great as the patience", 200, loft.pull(0, 300));
        CHECK.same("delay() behind it", 0, loft.delay());
        CHECK.same("an error greater by 1", 201, loft.pull(0, 801));
        CHECK.same("delay() behind it", 1, loft.delay());
        CHECK.same("due(0) with the delay", 1201, loft.due(0));
        CHECK.same("setPatience(0) in a ringing", 200, loft.setPatience(0));
        CHECK.same("an error of 0", 0, loft.pull(0, 1201));
        CHECK.same("delay() behind it", 1, loft.delay());
        CHECK.same("an error of 1", 1, loft.pull(0, 1602));
        CHECK.same("delay() behind it", 2, loft.delay());
        CHECK.same("an error below 0", -500, loft.pull(0, 1502));
        CHECK.same("delay() does not fall", 2, loft.delay());
        loft.setPatience(1000);
        CHECK.same("an error of 1001", 1001, loft.pull(0, 2302 + 1001));
        CHECK.same("delay() behind it", 3, loft.delay());
        told(loft, 0, 3, 1, 903);
    }

    private static void delayMovesWhatIsDue() {
        GrandsireLoft loft = ringing(0, 3, 100);
        CHECK.same("pull(0, 1000)", 900, loft.pull(0, 1000));
        CHECK.same("delay()", 700, loft.delay());
        CHECK.same("due(1) with the delay", 700, loft.due(1));
        CHECK.same("due(0) with the delay", 1300, loft.due(0));
        CHECK.same("pull(1, 950)", 250, loft.pull(1, 950));
        CHECK.same("delay() of both", 750, loft.delay());
        CHECK.same("done()", 1, loft.done());
        CHECK.same("due(0) with the delay of both", 1350, loft.due(0));
    }

    private static void delayMovesTheTrainer() {
        GrandsireLoft patient = ringing(0, 1, 100);
        patient.pull(0, 1100);
        CHECK.same("delay() with patience", 800, patient.delay());
        CHECK.same("wrong(): the next blow was due at 1000", 1, patient.wrong());
        GrandsireLoft hasty = hunts();
        hasty.setPatience(0);
        hasty.ring(0, 1, 100);
        hasty.pull(0, 1100);
        CHECK.same("delay() without patience", 1000, hasty.delay());
        CHECK.same("wrong(): the next blow is due at 1200", 0, hasty.wrong());
        GrandsireLoft last = hunts();
        last.ring(0, 3, 100);
        last.pull(1, 99);
        last.pull(0, 400);
        CHECK.same("delay() of the last pull of a row", 100, last.delay());
        CHECK.same("wrong(): the next blow is due at 300", 1, last.wrong());
        last.pull(1, 500);
        last.pull(0, 701);
        CHECK.same("wrong(): the row 1 is due at 500, 600, 700, 800", 1, last.wrong());
        last.pull(0, 1300);
        last.pull(1, 1401);
        CHECK.same("delay() of that", 201, last.delay());
        CHECK.same("wrong(): the bell 3 is due at 1101, the bell 2 at 1301", 2, last.wrong());
    }

    private static void greatestDelay() {
        GrandsireLoft loft = hunts();
        loft.setPatience(0);
        loft.ring(0, 2, 100);
        CHECK.same("pull at the latest time", LATEST_TIME, loft.pull(1, LATEST_TIME));
        CHECK.same("delay() at its greatest", LATEST_TIME, loft.delay());
        CHECK.same("due(1) past all times", LATEST_TIME + 400, loft.due(1));
        CHECK.same("pull at the latest time again", -400, loft.pull(1, LATEST_TIME));
        CHECK.same("done()", 2, loft.done());
        CHECK.same("wrong()", 0, loft.wrong());
        told(loft, 1, 1, 1, LATEST_TIME - 400);
    }

    private static void greatestSumOfErrors() {
        GrandsireLoft loft = ringing(0, 1, 100);
        CHECK.same("a great error", 1999999900, loft.pull(0, LATEST_TIME));
        loft.stand();
        loft.ring(0, 1, 100);
        CHECK.noState("as great an error again", () -> loft.pull(0, LATEST_TIME));
        CHECK.noState("an error too great by 1", () -> loft.pull(0, 147483848));
        told(loft, 0, 1, 0, 1999999900);
        CHECK.same("delay() behind refusals", 0, loft.delay());
        CHECK.same("done() behind refusals", 0, loft.done());
        CHECK.same("due(0) behind refusals", 100, loft.due(0));
        CHECK.same("wear behind refusals", 1, loft.wear(0, GrandsireLoft.CLAPPER));
        CHECK.same("an error that just fits", 147483747, loft.pull(0, 147483847));
        told(loft, 0, 2, 0, Integer.MAX_VALUE);
        CHECK.noState("an error of 1", () -> loft.pull(0, loft.due(0) + 1));
        CHECK.same("an error of 0", 0, loft.pull(0, loft.due(0)));
        CHECK.same("an error of -1", -1, loft.pull(0, loft.due(0) - 1));
        told(loft, 0, 2, 0, Integer.MAX_VALUE - 1);
    }

    private static void leastSumOfErrors() {
        GrandsireLoft loft = ringing(0, 3, 100);
        loft.pull(0, LATEST_TIME);
        CHECK.same("delay()", 1999999700, loft.delay());
        CHECK.same("pull(1, 0)", -1999999700, loft.pull(1, 0));
        CHECK.noState("as great an error again", () -> loft.pull(1, 0));
        CHECK.noState("an error too great by 1", () -> loft.pull(1, 1852516151));
        CHECK.same("due(1) behind refusals", 2000000100, loft.due(1));
        CHECK.same("an error that just fits", -147483948, loft.pull(1, 1852516152));
        told(loft, 1, 0, 2, Integer.MIN_VALUE);
        CHECK.noState("any error below 0", () -> loft.pull(1, LATEST_TIME));
    }

    /** The first row by people is 1032, each bell pulled at one of these times, by its place. */
    private static int wrongIn(int... times) {
        GrandsireLoft loft = hunts();
        loft.setPatience(1000);
        loft.ring(0, 15, 100);
        int[] bells = {1, 0, 3, 2};
        for (int place = 3; place >= 0; place--) {
            loft.pull(bells[place], times[place]);
        }
        CHECK.same("done() of one row", 1, loft.done());
        return loft.wrong();
    }

    private static void wrongRows() {
        CHECK.same("wrong() of a good row", 0, wrongIn(0, 100, 200, 300));
        CHECK.same("wrong() of a close row", 0, wrongIn(7, 8, 9, 10));
        CHECK.same("wrong(), the first two at once", 1, wrongIn(8, 8, 9, 10));
        CHECK.same("wrong(), the last two at once", 1, wrongIn(7, 8, 10, 10));
        CHECK.same("wrong(), the middle two crossed", 1, wrongIn(7, 9, 8, 10));
        CHECK.same("wrong(), the last one far ahead", 1, wrongIn(7, 8, 9, 0));
        CHECK.same("wrong() counts a row once", 1, wrongIn(10, 9, 8, 7));
        CHECK.same("wrong(), two pairs crossed", 1, wrongIn(8, 7, 10, 9));
    }

    private static void wrongGoesByThePlaces() {
        GrandsireLoft loft = ringing(0, 2, 100);
        loft.pull(1, 99);
        CHECK.same("wrong(), just ahead of the trainer", 0, loft.wrong());
        loft.pull(1, 0);
        CHECK.same("wrong(), ahead of the row before", 0, loft.wrong());
        loft.pull(1, 900);
        CHECK.same("wrong(), at once with the trainer's blow ahead", 1, loft.wrong());
        loft.pull(1, 1501);
        CHECK.same("wrong(), just ahead of the trainer's blow behind", 1, loft.wrong());
        loft.pull(1, 2200);
        CHECK.same("wrong(), the last place", 1, loft.wrong());
        CHECK.same("done()", 5, loft.done());
        loft.stand();
        CHECK.same("wrong() behind stand()", 1, loft.wrong());
        loft.ring(1, 1, 100);
        loft.pull(0, 0);
        CHECK.same("wrong() of another ringing", 2, loft.wrong());
        loft.stand();
        loft.ring(0, 2, 100);
        loft.pull(1, 100);
        CHECK.same("wrong(), at once with the trainer's blow behind", 3, loft.wrong());
    }

    private static void rungToTheEnd() {
        GrandsireLoft loft = hunts();
        loft.plan(1, 0);
        loft.ring(0, 8, 100);
        for (int row = 0; row < 7; row++) {
            loft.pull(3, loft.due(3));
            CHECK.same("done()", row + 1, loft.done());
            CHECK.same("rung() ahead of the end", 0, loft.rung());
            CHECK.same("latest() ahead of the end", NONE, loft.latest());
        }
        CHECK.same("planned(0) ahead of the end", 3, loft.planned(0));
        CHECK.same("the last pull", 1000, loft.pull(3, loft.due(3) + 1000));
        CHECK.no("isRinging()", loft.isRinging());
        CHECK.same("done()", NONE, loft.done());
        CHECK.same("delay()", 0, loft.delay());
        CHECK.same("rung()", 1, loft.rung());
        CHECK.same("latest()", 0, loft.latest());
        CHECK.same("planned(0)", 2, loft.planned(0));
        CHECK.same("plannedAt(0, 0)", 1, loft.plannedAt(0, 0));
        CHECK.same("planned(1): another day keeps it", 1, loft.planned(1));
        CHECK.same("dropped()", 0, loft.dropped());
        CHECK.noState("pull behind the end", () -> loft.pull(3, 0));
        loft.ring(1, 0, 100);
        CHECK.same("rung() of two", 2, loft.rung());
        CHECK.same("latest() of two", 1, loft.latest());
    }
}
