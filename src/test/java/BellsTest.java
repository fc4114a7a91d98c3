/** Promises 25 to 29: bells. */
public final class BellsTest {
    private static final int ROPE = GrandsireLoft.ROPE;
    private static final int CLAPPER = GrandsireLoft.CLAPPER;

    private static final Check CHECK = new Check("BellsTest");

    public static void main(String[] args) {
        takeOut();
        takeOutRefuses();
        bringIn();
        bringInInARinging();
        strokes();
        wearRefuses();
        mend();
        mendRefuses();
        ropeIsWornOutAt300();
        clapperIsWornOutAt200();
        wornOutInTheLastRow();
        wornOutAheadOfTheRows();
        wornOutWhenTheRingingIsStopped();
        wornOutByTwoParts();
        wornOutIsNoNewsToOtherTouches(ROPE);
        wornOutIsNoNewsToOtherTouches(CLAPPER);
        CHECK.end();
    }

    /** Two plain courses of the minimus, 0 and 1, with 24 rows each. */
    private static GrandsireLoft twoCourses() {
        GrandsireLoft loft = new GrandsireLoft();
        Lofts.minimus(loft);
        Lofts.plainTouch(loft, 0, 3);
        Lofts.plainTouch(loft, 0, 3);
        return loft;
    }

    /** Eight courses by the trainer: 288 of wear on the ropes below 4, 192 on the clappers. */
    private static GrandsireLoft wornLoft() {
        GrandsireLoft loft = twoCourses();
        for (int ringing = 0; ringing < 8; ringing++) {
            CHECK.same("ring of a course", 24, Lofts.ringAlone(loft, ringing % 2));
        }
        CHECK.same("rung() of eight courses", 8, loft.rung());
        return loft;
    }

    private static void renew(GrandsireLoft loft, int part) {
        for (int bell = 0; bell < 6; bell++) {
            loft.mend(bell, part);
        }
    }

    private static void isInBelow(GrandsireLoft loft, String call, int outFrom, int outTo) {
        for (int bell = 0; bell < 6; bell++) {
            boolean isOut = bell >= outFrom && bell < outTo;
            CHECK.same(call + ": isIn(" + bell + ")", isOut ? 0 : 1, Check.one(loft.isIn(bell)));
        }
    }

    private static void takeOut() {
        GrandsireLoft loft = new GrandsireLoft();
        Lofts.plainTouch(loft, Lofts.cross(loft), 2);
        Lofts.plainTouch(loft, Lofts.huntOfFive(loft), 5);
        Lofts.plainTouch(loft, Lofts.crossOfSix(loft), 2);
        int[][] plans = {{0, 0}, {0, 1}, {0, 2}, {3, 2}, {3, 0}, {60, 1}, {60, 2}, {60, 0}};
        for (int[] each : plans) {
            loft.plan(each[0], each[1]);
        }
        CHECK.same("takeOut(5)", 3, loft.takeOut(5));
        isInBelow(loft, "takeOut(5)", 5, 6);
        CHECK.same("dropped() by that", 3, loft.dropped());
        CHECK.same("planned(0) behind that", 2, loft.planned(0));
        CHECK.same("planned(3) behind that", 1, loft.planned(3));
        CHECK.same("plannedAt(3, 0) behind that", 0, loft.plannedAt(3, 0));
        CHECK.same("plannedAt(60, 0) behind that", 1, loft.plannedAt(60, 0));
        CHECK.same("plannedAt(60, 1) behind that", 0, loft.plannedAt(60, 1));
        CHECK.same("takeOut(4)", 2, loft.takeOut(4));
        CHECK.same("takeOut(2)", 3, loft.takeOut(2));
        CHECK.same("takeOut(0)", 0, loft.takeOut(0));
        CHECK.same("dropped() of all", 8, loft.dropped());
        CHECK.same("planned(60) behind all", 0, loft.planned(60));
    }

    private static void takeOutRefuses() {
        GrandsireLoft loft = twoCourses();
        CHECK.noIndex("takeOut(-1)", () -> loft.takeOut(-1));
        CHECK.noIndex("takeOut(6)", () -> loft.takeOut(6));
        loft.takeOut(4);
        CHECK.noState("takeOut(4) again", () -> loft.takeOut(4));
        loft.plan(0, 0);
        loft.ring(0, 1, 100);
        CHECK.noState("takeOut(5) in a ringing", () -> loft.takeOut(5));
        CHECK.noIndex("takeOut(6) in a ringing", () -> loft.takeOut(6));
        CHECK.yes("isIn(5) behind the refusal", loft.isIn(5));
        CHECK.yes("isRinging() behind the refusal", loft.isRinging());
        loft.stand();
        CHECK.same("takeOut(5) behind the ringing", 0, loft.takeOut(5));
        CHECK.same("planned(0) stays", 1, loft.planned(0));
        CHECK.same("takeOut(3)", 1, loft.takeOut(3));
    }

    private static void bringIn() {
        GrandsireLoft loft = twoCourses();
        CHECK.noIndex("bringIn(-1)", () -> Check.one(loft.bringIn(-1)));
        CHECK.noIndex("bringIn(6)", () -> Check.one(loft.bringIn(6)));
        CHECK.noState("bringIn(2) of a bell that is in", () -> Check.one(loft.bringIn(2)));
        loft.plan(1, 0);
        loft.takeOut(2);
        CHECK.noState("bringIn(1) of another bell", () -> Check.one(loft.bringIn(1)));
        CHECK.yes("bringIn(2)", loft.bringIn(2));
        CHECK.yes("isIn(2)", loft.isIn(2));
        CHECK.same("planned(1): what was dropped stays dropped", 0, loft.planned(1));
        CHECK.noState("bringIn(2) again", () -> Check.one(loft.bringIn(2)));
        CHECK.same("plan behind bringIn", 1, loft.plan(1, 0));
        CHECK.same("takeOut(2) again", 1, loft.takeOut(2));
    }

    private static void bringInInARinging() {
        GrandsireLoft loft = twoCourses();
        loft.takeOut(5);
        loft.plan(0, 0);
        loft.ring(0, 1, 100);
        CHECK.yes("bringIn(5) in a ringing", loft.bringIn(5));
        CHECK.yes("isIn(5)", loft.isIn(5));
        CHECK.yes("isRinging()", loft.isRinging());
    }

    private static void strokes() {
        GrandsireLoft loft = twoCourses();
        loft.plan(0, 0);
        loft.ring(0, 5, 100);
        loft.pull(0, loft.due(0));
        CHECK.same("rope, a handstroke pulled", 1, loft.wear(0, ROPE));
        CHECK.same("clapper, a handstroke pulled", 1, loft.wear(0, CLAPPER));
        CHECK.same("rope of the trainer's bell, the row not done", 0, loft.wear(1, ROPE));
        loft.pull(0, loft.due(0));
        CHECK.same("rope, a backstroke pulled", 3, loft.wear(0, ROPE));
        CHECK.same("clapper, a backstroke pulled", 2, loft.wear(0, CLAPPER));
        loft.pull(2, loft.due(2));
        CHECK.same("rope of the trainer's bell, a row done", 1, loft.wear(1, ROPE));
        CHECK.same("clapper of the trainer's bell, a row done", 1, loft.wear(3, CLAPPER));
        CHECK.same("rope of a bell that has pulled ahead", 3, loft.wear(0, ROPE));
        loft.pull(2, loft.due(2));
        CHECK.same("rope of the trainer's bell, two rows done", 3, loft.wear(3, ROPE));
        CHECK.same("clapper of the trainer's bell, two rows done", 2, loft.wear(1, CLAPPER));
        CHECK.same("rope, two blows", 3, loft.wear(2, ROPE));
        CHECK.same("rope above the stage", 0, loft.wear(4, ROPE));
        loft.stand();
        loft.ring(0, 0, 100);
        CHECK.same("rope behind a course", 39, loft.wear(1, ROPE));
        CHECK.same("clapper behind a course", 26, loft.wear(0, CLAPPER));
        CHECK.same("clapper above the stage", 0, loft.wear(5, CLAPPER));
    }

    private static void wearRefuses() {
        GrandsireLoft loft = new GrandsireLoft();
        CHECK.noIndex("wear(6, 0)", () -> loft.wear(6, 0));
        CHECK.noIndex("wear(-1, 2)", () -> loft.wear(-1, 2));
        CHECK.noArgument("wear(0, 2)", () -> loft.wear(0, 2));
        CHECK.noArgument("wear(0, -1)", () -> loft.wear(0, -1));
        CHECK.noIndex("isIn(6)", () -> Check.one(loft.isIn(6)));
        CHECK.noIndex("isIn(-1)", () -> Check.one(loft.isIn(-1)));
    }

    private static void mend() {
        GrandsireLoft loft = twoCourses();
        CHECK.same("mend of a new rope", 0, loft.mend(0, ROPE));
        Lofts.ringAlone(loft, 0);
        CHECK.same("mend(0, ROPE)", 36, loft.mend(0, ROPE));
        CHECK.same("the new rope", 0, loft.wear(0, ROPE));
        CHECK.same("the clapper stays", 24, loft.wear(0, CLAPPER));
        CHECK.same("mend(0, CLAPPER)", 24, loft.mend(0, CLAPPER));
        CHECK.same("the new clapper", 0, loft.wear(0, CLAPPER));
        CHECK.same("another bell's rope stays", 36, loft.wear(1, ROPE));
        CHECK.same("another bell's clapper stays", 24, loft.wear(1, CLAPPER));
        loft.takeOut(1);
        loft.mend(1, ROPE);
        CHECK.no("mend brings no bell in that was taken out by hand", loft.isIn(1));
    }

    private static void mendRefuses() {
        GrandsireLoft loft = twoCourses();
        CHECK.noIndex("mend(6, 2)", () -> loft.mend(6, 2));
        CHECK.noIndex("mend(-1, 0)", () -> loft.mend(-1, 0));
        CHECK.noArgument("mend(0, 2)", () -> loft.mend(0, 2));
        CHECK.noArgument("mend(0, -1)", () -> loft.mend(0, -1));
        loft.plan(0, 0);
        loft.ring(0, 1, 100);
        loft.pull(0, 0);
        CHECK.noState("mend(0, ROPE) in a ringing", () -> loft.mend(0, ROPE));
        CHECK.noState("mend(5, CLAPPER) in a ringing", () -> loft.mend(5, CLAPPER));
        CHECK.noArgument("mend(0, 2) in a ringing", () -> loft.mend(0, 2));
        CHECK.noIndex("mend(6, 0) in a ringing", () -> loft.mend(6, 0));
        CHECK.same("the rope stays", 1, loft.wear(0, ROPE));
    }

    private static void ropeIsWornOutAt300() {
        GrandsireLoft loft = wornLoft();
        renew(loft, CLAPPER);
        loft.plan(0, 0);
        loft.ring(0, 1, 100);
        for (int row = 0; row < 7; row++) {
            loft.pull(0, loft.due(0));
        }
        CHECK.same("the rope behind seven rows", 298, loft.wear(0, ROPE));
        loft.stand();
        loft.ring(0, 1, 100);
        loft.pull(0, loft.due(0));
        CHECK.same("the rope behind one more handstroke", 299, loft.wear(0, ROPE));
        CHECK.yes("isIn with a rope at 299", loft.isIn(0));
        CHECK.same("stand()", 1, loft.stand());
        isInBelow(loft, "ropes at 299", 6, 6);
        loft.plan(1, 1);
        loft.plan(0, 1);
        CHECK.same("ring of one row more", 1, loft.ring(0, 0, 100));
        CHECK.same("the rope that is worn out", 300, loft.wear(3, ROPE));
        isInBelow(loft, "ropes at 300", 0, 4);
        CHECK.no("isRinging() with ropes worn out", loft.isRinging());
        CHECK.same("dropped() by that", 3, loft.dropped());
        CHECK.same("planned(0) behind that", 0, loft.planned(0));
        CHECK.same("planned(1) behind that", 0, loft.planned(1));
        CHECK.same("rung() stays", 8, loft.rung());
        CHECK.same("mend of a worn rope", 300, loft.mend(0, ROPE));
        isInBelow(loft, "a rope mended", 1, 4);
        CHECK.noState("plan with ropes worn out", () -> loft.plan(0, 0));
        renew(loft, ROPE);
        isInBelow(loft, "all ropes mended", 6, 6);
        CHECK.same("plan with new ropes", 1, loft.plan(0, 0));
    }

    private static void clapperIsWornOutAt200() {
        GrandsireLoft loft = wornLoft();
        renew(loft, ROPE);
        loft.plan(0, 0);
        loft.ring(0, 1, 100);
        for (int row = 0; row < 7; row++) {
            loft.pull(0, loft.due(0));
        }
        CHECK.same("the clapper behind seven rows", 199, loft.wear(0, CLAPPER));
        loft.stand();
        isInBelow(loft, "clappers at 199", 6, 6);
        CHECK.same("ring of one row more", 1, loft.ring(0, 0, 100));
        CHECK.same("the clapper that is worn out", 200, loft.wear(0, CLAPPER));
        isInBelow(loft, "clappers at 200", 0, 4);
        CHECK.same("dropped() by that", 1, loft.dropped());
        loft.mend(2, ROPE);
        isInBelow(loft, "a rope is no clapper", 0, 4);
        CHECK.same("takeOut of a bell that is worn out", 0, loft.takeOut(3));
        CHECK.noState("takeOut of it again", () -> loft.takeOut(3));
        CHECK.no("bringIn of a bell that is worn out", loft.bringIn(3));
        CHECK.noState("bringIn of it again", () -> Check.one(loft.bringIn(3)));
        loft.takeOut(3);
        CHECK.same("mend of a worn clapper", 200, loft.mend(3, CLAPPER));
        CHECK.no("isIn of a bell taken out by hand", loft.isIn(3));
        CHECK.yes("bringIn of a bell that is mended", loft.bringIn(3));
    }

    private static void wornOutInTheLastRow() {
        GrandsireLoft loft = new GrandsireLoft();
        Lofts.hunt(loft);
        Lofts.plainTouch(loft, 0, 4);
        Lofts.plainTouch(loft, 0, 4);
        for (int ringing = 0; ringing < 24; ringing++) {
            Lofts.ringAlone(loft, ringing % 2);
        }
        CHECK.same("rung() of 24", 24, loft.rung());
        CHECK.same("the clapper behind 24", 192, loft.wear(0, CLAPPER));
        CHECK.same("dropped() of 24", 0, loft.dropped());
        CHECK.same("ring of the 25th", 8, Lofts.ringAlone(loft, 0));
        CHECK.same("rung(): the 25th was not rung to its end", 24, loft.rung());
        CHECK.same("latest(): nor is it the latest", 1, loft.latest());
        CHECK.same("dropped(): it was dropped", 1, loft.dropped());
        CHECK.same("wear behind the 25th", 200, loft.wear(3, CLAPPER));
    }

    private static void wornOutAheadOfTheRows() {
        GrandsireLoft loft = wornLoft();
        loft.plan(0, 1);
        loft.plan(0, 0);
        loft.plan(2, 1);
        loft.ring(0, 3, 100);
        for (int row = 0; row < 10; row++) {
            loft.pull(0, loft.due(0));
        }
        CHECK.same("the clapper of pulls ahead", 202, loft.wear(0, CLAPPER));
        CHECK.yes("isIn as long as no row is done", loft.isIn(0));
        CHECK.yes("isRinging()", loft.isRinging());
        CHECK.same("done()", 0, loft.done());
        CHECK.same("plan as long as the bell is in", 1, loft.plan(1, 0));
        CHECK.same("pull of the other bell", 0, loft.pull(1, loft.due(1)));
        CHECK.no("isRinging() behind the row", loft.isRinging());
        CHECK.same("done() behind the row", GrandsireLoft.NONE, loft.done());
        isInBelow(loft, "a row behind pulls ahead", 0, 1);
        CHECK.same("the clapper of the trainer's bell", 193, loft.wear(2, CLAPPER));
        CHECK.same("dropped()", 4, loft.dropped());
        CHECK.same("planned(1)", 0, loft.planned(1));
        CHECK.same("rung()", 8, loft.rung());
    }

    private static void wornOutWhenTheRingingIsStopped() {
        GrandsireLoft loft = wornLoft();
        loft.plan(0, 0);
        loft.plan(3, 1);
        loft.ring(0, 12, 100);
        for (int row = 0; row < 8; row++) {
            loft.pull(3, loft.due(3));
        }
        CHECK.yes("isIn(3) ahead of stand()", loft.isIn(3));
        CHECK.same("dropped() ahead of stand()", 0, loft.dropped());
        CHECK.same("stand()", 0, loft.stand());
        isInBelow(loft, "stand() behind pulls ahead", 3, 4);
        CHECK.same("dropped() by stand()", 2, loft.dropped());
        CHECK.same("planned(3)", 0, loft.planned(3));
    }

    private static void wornOutByTwoParts() {
        GrandsireLoft loft = wornLoft();
        CHECK.same("ring up to both limits", 8, Lofts.ringAlone(loft, 0));
        CHECK.same("the rope", 300, loft.wear(0, ROPE));
        CHECK.same("the clapper", 200, loft.wear(0, CLAPPER));
        loft.mend(0, ROPE);
        CHECK.no("isIn with the rope mended alone", loft.isIn(0));
        loft.mend(0, CLAPPER);
        CHECK.yes("isIn with both mended", loft.isIn(0));
        loft.mend(1, CLAPPER);
        CHECK.no("isIn with the clapper mended alone", loft.isIn(1));
    }

    /** A part of the bells 4 and 5 that is worn out already does not end a ringing on four. */
    private static void wornOutIsNoNewsToOtherTouches(int part) {
        GrandsireLoft loft = twoCourses();
        Lofts.minor(loft);
        Lofts.plainTouch(loft, 1, 5);
        Lofts.plainTouch(loft, 1, 5);
        for (int ringing = 0; ringing < 3; ringing++) {
            CHECK.same("ring of a course on six", 60, Lofts.ringAlone(loft, 2 + ringing % 2));
        }
        renew(loft, part == ROPE ? CLAPPER : ROPE);
        CHECK.same("ring until a part is worn out", 20, Lofts.ringAlone(loft, 3));
        isInBelow(loft, "a course on six", 0, 6);
        for (int bell = 0; bell < 4; bell++) {
            loft.mend(bell, part);
        }
        CHECK.same("ring on four, the bells 4 and 5 being out", 24, Lofts.ringAlone(loft, 0));
        CHECK.same("latest()", 0, loft.latest());
        isInBelow(loft, "behind that", 4, 6);
    }
}
