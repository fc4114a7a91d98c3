/** Promises 30 to 37: rota. */
public final class RotaTest {
    private static final int NONE = GrandsireLoft.NONE;

    private static final Check CHECK = new Check("RotaTest");

    public static void main(String[] args) {
        setBand();
        plan();
        planRefuses();
        planRefusesWhatIsNotSound();
        plannedAndPlannedAt();
        rotaByTurns();
        rotaBySizes();
        rotaWithoutABand();
        rotaGoesByWhatIsPlanned();
        todayKeepsItsBand();
        theBandIsKeptFromTheFirstRinging();
        theBandIsNotKeptByARefusal();
        pass();
        passMovesTheTurn();
        passBehindAKeptBand();
        passRefuses();
        droppedByACall();
        droppedIsNotGone();
        CHECK.end();
    }

    /** The touches 0 on four bells, 1 on five, 2 on six, each sound. */
    private static GrandsireLoft threeTouches() {
        GrandsireLoft loft = new GrandsireLoft();
        Lofts.plainTouch(loft, Lofts.cross(loft), 2);
        Lofts.plainTouch(loft, Lofts.huntOfFive(loft), 5);
        Lofts.plainTouch(loft, Lofts.crossOfSix(loft), 2);
        return loft;
    }

    private static void sizes(GrandsireLoft loft, int... sizes) {
        for (int band = 0; band < 4; band++) {
            loft.setBand(band, sizes[band]);
        }
    }

    private static void bands(GrandsireLoft loft, String call, int firstDay, int... bands) {
        for (int at = 0; at < bands.length; at++) {
            CHECK.same(call + ": rota(" + (firstDay + at) + ")", bands[at], loft.rota(firstDay + at));
        }
    }

    private static void setBand() {
        GrandsireLoft loft = new GrandsireLoft();
        for (int band = 0; band < 4; band++) {
            CHECK.same("the size at first", 6, loft.setBand(band, 4));
        }
        CHECK.same("setBand(2, 5)", 4, loft.setBand(2, 5));
        CHECK.same("setBand(2, 6)", 5, loft.setBand(2, 6));
        CHECK.same("setBand(3, 6)", 4, loft.setBand(3, 6));
        CHECK.noIndex("setBand(4, 3)", () -> loft.setBand(4, 3));
        CHECK.noIndex("setBand(-1, 6)", () -> loft.setBand(-1, 6));
        CHECK.noArgument("setBand(0, 3)", () -> loft.setBand(0, 3));
        CHECK.noArgument("setBand(0, 7)", () -> loft.setBand(0, 7));
        CHECK.same("setBand behind refusals", 4, loft.setBand(0, 4));
    }

    private static void plan() {
        GrandsireLoft loft = new GrandsireLoft();
        Lofts.cross(loft);
        for (int touch = 0; touch < 6; touch++) {
            Lofts.plainTouch(loft, 0, 2);
        }
        int[] order = {3, 0, 5, 2};
        for (int place = 0; place < 4; place++) {
            CHECK.same("plan(7, " + order[place] + ")", place + 1, loft.plan(7, order[place]));
        }
        CHECK.noState("the fifth touch of a day", () -> loft.plan(7, 1));
        CHECK.same("planned(7)", 4, loft.planned(7));
        CHECK.same("plan(8, 3): another day", 1, loft.plan(8, 3));
        CHECK.noState("plan(8, 3) again", () -> loft.plan(8, 3));
        CHECK.same("planned(8)", 1, loft.planned(8));
        CHECK.same("plan(0, 4)", 1, loft.plan(0, 4));
        CHECK.same("plan(60, 4)", 1, loft.plan(60, 4));
    }

    private static void planRefuses() {
        GrandsireLoft loft = threeTouches();
        CHECK.noIndex("plan(-1, 3)", () -> loft.plan(-1, 3));
        CHECK.noIndex("plan(0, -1)", () -> loft.plan(0, -1));
        CHECK.noArgument("plan(-1, 0)", () -> loft.plan(-1, 0));
        CHECK.noArgument("plan(61, 0)", () -> loft.plan(61, 0));
        loft.takeOut(4);
        CHECK.noState("plan of five with the bell 4 out", () -> loft.plan(0, 1));
        CHECK.noState("plan of six with the bell 4 out", () -> loft.plan(0, 2));
        CHECK.noArgument("plan of five on no day", () -> loft.plan(61, 1));
        CHECK.same("plan of four with the bell 4 out", 1, loft.plan(0, 0));
        loft.bringIn(4);
        loft.takeOut(5);
        CHECK.same("plan of five with the bell 5 out", 2, loft.plan(0, 1));
        CHECK.noState("plan of six with the bell 5 out", () -> loft.plan(0, 2));
        loft.pass();
        CHECK.noArgument("plan of yesterday", () -> loft.plan(0, 0));
        CHECK.same("plan of today", 1, loft.plan(1, 0));
    }

    private static void planRefusesWhatIsNotSound() {
        GrandsireLoft loft = new GrandsireLoft();
        Lofts.hunt(loft);
        Lofts.plainTouch(loft, 0, 3);
        Lofts.plainTouch(loft, 0, 8);
        Lofts.touch(loft, 0, 0, 0, 1);
        CHECK.noState("plan of what does not come round", () -> loft.plan(0, 0));
        CHECK.noState("plan of what is not true", () -> loft.plan(0, 1));
        CHECK.same("plan of what is sound", 1, loft.plan(0, 2));
        loft.setCall(0, GrandsireLoft.BOB, 3);
        CHECK.noState("plan of what is not sound any more", () -> loft.plan(1, 2));
        loft.setCall(0, GrandsireLoft.BOB, 9);
        CHECK.same("plan of what is sound again", 1, loft.plan(1, 2));
    }

    private static void plannedAndPlannedAt() {
        GrandsireLoft loft = threeTouches();
        Lofts.plainTouch(loft, 0, 2);
        loft.plan(1, 3);
        loft.plan(1, 2);
        loft.plan(1, 0);
        loft.plan(1, 1);
        int[] order = {3, 2, 0, 1};
        for (int place = 0; place < 4; place++) {
            CHECK.same("plannedAt(1, " + place + ")", order[place], loft.plannedAt(1, place));
        }
        CHECK.noIndex("plannedAt(1, 4)", () -> loft.plannedAt(1, 4));
        CHECK.noIndex("plannedAt(1, -1)", () -> loft.plannedAt(1, -1));
        CHECK.noIndex("plannedAt(0, 0)", () -> loft.plannedAt(0, 0));
        CHECK.noArgument("plannedAt(-1, -1)", () -> loft.plannedAt(-1, -1));
        CHECK.noArgument("plannedAt(61, 0)", () -> loft.plannedAt(61, 0));
        CHECK.noArgument("planned(-1)", () -> loft.planned(-1));
        CHECK.noArgument("planned(61)", () -> loft.planned(61));
        CHECK.same("planned(60)", 0, loft.planned(60));
        loft.takeOut(5);
        CHECK.same("plannedAt(1, 0), one being dropped", 3, loft.plannedAt(1, 0));
        CHECK.same("plannedAt(1, 1), one being dropped", 0, loft.plannedAt(1, 1));
        CHECK.same("plannedAt(1, 2), one being dropped", 1, loft.plannedAt(1, 2));
        CHECK.noIndex("plannedAt(1, 3), one being dropped", () -> loft.plannedAt(1, 3));
        loft.pass();
        CHECK.noArgument("planned of yesterday", () -> loft.planned(0));
        CHECK.noArgument("plannedAt of yesterday", () -> loft.plannedAt(0, 0));
        CHECK.same("planned of today", 3, loft.planned(1));
        loft.ring(0, 0, 100);
        CHECK.same("plannedAt(1, 1), one being rung", 1, loft.plannedAt(1, 1));
        CHECK.same("planned(1), one being rung", 2, loft.planned(1));
    }

    private static void rotaByTurns() {
        GrandsireLoft loft = threeTouches();
        CHECK.noArgument("rota(-1)", () -> loft.rota(-1));
        CHECK.noArgument("rota(61)", () -> loft.rota(61));
        int[] days = {0, 1, 3, 4, 7, 60};
        for (int day : days) {
            loft.plan(day, 2);
        }
        bands(loft, "six bells by turns", 0, 0, 1, NONE, 2, 3, NONE, NONE, 0, NONE);
        bands(loft, "the last day", 59, NONE, 1);
        loft.pass();
        CHECK.noArgument("rota of yesterday", () -> loft.rota(0));
        CHECK.same("rota of today", 1, loft.rota(1));
    }

    private static void rotaBySizes() {
        GrandsireLoft loft = threeTouches();
        sizes(loft, 4, 5, 6, 4);
        int[] touches = {0, 2, 0, 1, 2, 2, 1, 0};
        for (int day = 0; day < touches.length; day++) {
            loft.plan(day, touches[day]);
        }
        bands(loft, "past bands too small", 0, 0, 2, 3, 1, 2, 2, 1, 2);
        loft.plan(0, 2);
        bands(loft, "by the greatest stage", 0, 2, 2, 3, 1, 2, 2, 1, 2);
        loft.plan(2, 1);
        bands(loft, "by the greater stage, planned later", 0, 2, 2, 1, 2, 2, 2, 1, 2);
        loft.setBand(3, 6);
        bands(loft, "by the sizes of now", 0, 2, 3, 1, 2, 3, 2, 3, 0);
    }

    private static void rotaWithoutABand() {
        GrandsireLoft loft = threeTouches();
        sizes(loft, 5, 4, 5, 5);
        loft.plan(0, 0);
        loft.plan(1, 2);
        loft.plan(2, 0);
        loft.plan(3, 1);
        bands(loft, "no band of six", 0, 0, NONE, 1, 2);
        loft.setBand(0, 6);
        bands(loft, "a band of six behind the band 3", 0, 0, 0, 1, 2);
    }

    private static void rotaGoesByWhatIsPlanned() {
        GrandsireLoft loft = threeTouches();
        sizes(loft, 4, 6, 6, 6);
        loft.plan(0, 0);
        loft.plan(0, 2);
        loft.plan(1, 0);
        bands(loft, "six and four", 0, 1, 2);
        loft.takeOut(5);
        bands(loft, "six being dropped", 0, 0, 1);
        loft.takeOut(0);
        bands(loft, "all being dropped", 0, NONE, NONE);
    }

    private static void todayKeepsItsBand() {
        GrandsireLoft loft = threeTouches();
        loft.plan(0, 0);
        loft.plan(1, 0);
        loft.setBand(0, 4);
        CHECK.same("ring on four", 2, loft.ring(0, 0, 100));
        CHECK.same("rota(0), nothing being planned any more", 0, loft.rota(0));
        CHECK.same("rota(1), the turn being behind it", 1, loft.rota(1));
        loft.plan(0, 2);
        bands(loft, "six planned later", 0, 0, 1);
        CHECK.noState("ring of six with a band of four", () -> loft.ring(2, 0, 100));
        loft.setBand(0, 6);
        CHECK.same("ring of six with the band grown", 2, loft.ring(2, 0, 100));
        bands(loft, "behind that", 0, 0, 1);
        loft.takeOut(0);
        bands(loft, "all being dropped", 0, 0, NONE);
    }

    private static void theBandIsKeptFromTheFirstRinging() {
        GrandsireLoft loft = threeTouches();
        sizes(loft, 5, 6, 6, 6);
        loft.plan(0, 1);
        loft.ring(1, 1, 100);
        loft.plan(0, 2);
        loft.plan(0, 0);
        loft.plan(1, 2);
        bands(loft, "while the first ringing is on", 0, 0, 1);
        loft.setBand(0, 4);
        loft.stand();
        bands(loft, "behind stand()", 0, 0, 1);
        CHECK.noState("ring of five with a band shrunk", () -> loft.ring(1, 0, 100));
        CHECK.same("ring of four", 2, loft.ring(0, 0, 100));
        bands(loft, "behind the second ringing", 0, 0, 1);
    }

    private static void theBandIsNotKeptByARefusal() {
        GrandsireLoft loft = threeTouches();
        loft.plan(0, 0);
        CHECK.noState("ring of what is not planned", () -> loft.ring(1, 0, 100));
        CHECK.noArgument("ring with no gap", () -> loft.ring(0, 0, 99));
        loft.setBand(0, 5);
        loft.plan(0, 2);
        bands(loft, "behind refusals", 0, 1, NONE);
        loft.setBand(0, 6);
        bands(loft, "behind refusals, the band grown", 0, 0, NONE);
    }

    private static void pass() {
        GrandsireLoft loft = threeTouches();
        for (int day = 0; day < 60; day++) {
            CHECK.same("today()", day, loft.today());
            loft.plan(day, 0);
            CHECK.same("pass()", day + 1, loft.pass());
        }
        CHECK.same("today() at last", 60, loft.today());
        CHECK.noState("pass() of the last day", () -> loft.pass());
        CHECK.same("today() stays", 60, loft.today());
        CHECK.same("plan of the last day", 1, loft.plan(60, 0));
        CHECK.same("rota of the last day", 0, loft.rota(60));
        CHECK.same("dropped(): what is gone was not dropped", 0, loft.dropped());
        CHECK.same("ring on the last day", 2, loft.ring(0, 0, 100));
    }

    private static void passMovesTheTurn() {
        GrandsireLoft loft = threeTouches();
        sizes(loft, 4, 6, 5, 6);
        loft.pass();
        loft.plan(1, 0);
        bands(loft, "a day without a touch leaves the turn", 1, 0);
        loft.pass();
        loft.plan(2, 0);
        bands(loft, "the turn is behind the day that passed", 2, 1);
        loft.plan(2, 2);
        loft.takeOut(5);
        loft.setBand(1, 4);
        loft.plan(2, 1);
        bands(loft, "by the rota as it is then", 2, 2);
        loft.pass();
        loft.plan(3, 0);
        bands(loft, "the turn past a band too small", 3, 3);
        loft.pass();
        loft.plan(4, 0);
        bands(loft, "the turn at the band 0 again", 4, 0);
        loft.takeOut(0);
        loft.bringIn(0);
        loft.pass();
        loft.plan(5, 0);
        bands(loft, "a day whose touch was dropped leaves the turn", 5, 0);
    }

    private static void passBehindAKeptBand() {
        GrandsireLoft loft = threeTouches();
        loft.pass();
        loft.plan(1, 0);
        loft.plan(2, 1);
        loft.ring(0, 0, 100);
        loft.setBand(0, 4);
        loft.plan(1, 2);
        loft.takeOut(5);
        CHECK.same("pass()", 2, loft.pass());
        bands(loft, "the turn is behind the band that was kept", 2, 1, NONE);
        loft.setBand(1, 4);
        bands(loft, "the new day keeps no band", 2, 2);
        loft.takeOut(4);
        bands(loft, "the new day keeps no band at all", 2, NONE);
    }

    private static void passRefuses() {
        GrandsireLoft loft = threeTouches();
        loft.plan(0, 0);
        loft.ring(0, 1, 100);
        CHECK.noState("pass() in a ringing", () -> loft.pass());
        CHECK.same("today() stays", 0, loft.today());
        loft.stand();
        CHECK.same("pass() behind the ringing", 1, loft.pass());
    }

    private static void droppedByACall() {
        GrandsireLoft loft = new GrandsireLoft();
        Lofts.hunt(loft);
        Lofts.touch(loft, 0, 0, 0, 1);
        Lofts.touch(loft, 2, 0, 0, 0);
        Lofts.touch(loft, 0, 0, 0, 0);
        for (int day = 0; day < 3; day++) {
            for (int touch = 0; touch < 3; touch++) {
                loft.plan(day, touch);
            }
        }
        loft.pass();
        loft.setCall(0, GrandsireLoft.BOB, 9);
        CHECK.same("dropped(), the call being the same", 0, loft.dropped());
        loft.setCall(0, GrandsireLoft.BOB, 0);
        CHECK.same("dropped() by the BOB", 2, loft.dropped());
        CHECK.same("planned(1)", 2, loft.planned(1));
        CHECK.same("plannedAt(2, 0)", 1, loft.plannedAt(2, 0));
        CHECK.same("plannedAt(2, 1)", 2, loft.plannedAt(2, 1));
        loft.setCall(0, GrandsireLoft.BOB, 9);
        CHECK.same("what is sound again stays dropped", 2, loft.planned(1));
        loft.setCall(0, GrandsireLoft.SINGLE, 12);
        CHECK.same("dropped() by the SINGLE", 4, loft.dropped());
        CHECK.same("takeOut(0)", 2, loft.takeOut(0));
        CHECK.same("dropped() by all", 6, loft.dropped());
    }

    private static void droppedIsNotGone() {
        GrandsireLoft loft = threeTouches();
        loft.plan(0, 0);
        loft.plan(0, 1);
        loft.ring(0, 0, 100);
        loft.pass();
        CHECK.same("dropped(), one being rung and one gone", 0, loft.dropped());
        CHECK.same("planned(1)", 0, loft.planned(1));
        CHECK.same("takeOut(0), nothing being planned", 0, loft.takeOut(0));
    }
}
