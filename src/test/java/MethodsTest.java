/** Promises 1 to 11: a new object, and methods. */
public final class MethodsTest {
    private static final int[][] CHANGES = {
        {0, 3, 9, 12},
        {1, 4, 7, 16, 19, 25, 28},
        {0, 3, 9, 12, 15, 33, 36, 39, 48, 51, 57, 60},
    };

    private static final Check CHECK = new Check("MethodsTest");

    public static void main(String[] args) {
        newObject();
        change();
        dropChanges();
        methodTakesTheChangesOfItsStage();
        methodRefuses();
        methodsAreAtMostEight();
        setCall();
        setCallRefuses();
        setCallTakesTheChangesOfTheStage();
        setCallInARinging();
        stage();
        changeAt();
        head();
        course();
        isFalse();
        falseRows();
        CHECK.end();
    }

    private static boolean isAmong(int[] values, int value) {
        for (int each : values) {
            if (each == value) {
                return true;
            }
        }
        return false;
    }

    private static void newObject() {
        GrandsireLoft loft = new GrandsireLoft();
        CHECK.noIndex("stage(0) of a new object", () -> loft.stage(0));
        CHECK.same("touches() of a new object", 0, loft.touches());
        CHECK.same("dropChanges() of a new object", 0, loft.dropChanges());
        CHECK.same("dropLeads() of a new object", 0, loft.dropLeads());
        CHECK.same("today() of a new object", 0, loft.today());
        CHECK.same("dropped() of a new object", 0, loft.dropped());
        CHECK.no("isRinging() of a new object", loft.isRinging());
        CHECK.same("done() of a new object", GrandsireLoft.NONE, loft.done());
        CHECK.same("delay() of a new object", 0, loft.delay());
        CHECK.same("wrong() of a new object", 0, loft.wrong());
        CHECK.same("rung() of a new object", 0, loft.rung());
        CHECK.same("latest() of a new object", GrandsireLoft.NONE, loft.latest());
        CHECK.same("setPatience(7) of a new object", 200, loft.setPatience(7));
        for (int bell = 0; bell < 6; bell++) {
            CHECK.yes("isIn of a new object", loft.isIn(bell));
            CHECK.same("wear of a new rope", 0, loft.wear(bell, GrandsireLoft.ROPE));
            CHECK.same("wear of a new clapper", 0, loft.wear(bell, GrandsireLoft.CLAPPER));
            CHECK.same("late of a new object", 0, loft.late(bell));
            CHECK.same("early of a new object", 0, loft.early(bell));
            CHECK.same("errors of a new object", 0, loft.errors(bell));
        }
        for (int day = 0; day <= 60; day++) {
            CHECK.same("planned of a new object", 0, loft.planned(day));
            CHECK.same("rota of a new object", GrandsireLoft.NONE, loft.rota(day));
        }
        for (int band = 0; band < 4; band++) {
            CHECK.same("setBand of a new object", 6, loft.setBand(band, 5));
        }
    }

    private static void change() {
        GrandsireLoft loft = new GrandsireLoft();
        CHECK.noArgument("change(-1)", () -> loft.change(-1));
        CHECK.noArgument("change(64)", () -> loft.change(64));
        CHECK.same("change(0)", 1, loft.change(0));
        CHECK.same("change(63)", 2, loft.change(63));
        for (int count = 3; count <= 12; count++) {
            CHECK.same("change of the draft", count, loft.change(2));
        }
        CHECK.noState("the 13th change", () -> loft.change(0));
        CHECK.noArgument("the 13th change, out of range", () -> loft.change(64));
        CHECK.same("dropChanges() of a full draft", 12, loft.dropChanges());
    }

    private static void dropChanges() {
        GrandsireLoft loft = new GrandsireLoft();
        loft.lead(Lofts.hunt(loft), GrandsireLoft.PLAIN);
        loft.change(0);
        loft.change(5);
        CHECK.same("dropChanges() of two", 2, loft.dropChanges());
        CHECK.same("dropChanges() of none", 0, loft.dropChanges());
        CHECK.same("change behind dropChanges", 1, loft.change(3));
        CHECK.same("the draft of a touch stays", 1, loft.dropLeads());
        CHECK.same("method of what came behind", 1, loft.method(4));
        CHECK.same("its first change", 3, loft.changeAt(1, GrandsireLoft.PLAIN, 0));
        CHECK.same("it has one change", GrandsireLoft.NONE, loft.changeAt(1, GrandsireLoft.PLAIN, 1));
    }

    private static void methodTakesTheChangesOfItsStage() {
        for (int stage = 4; stage <= 6; stage++) {
            int[] changes = CHANGES[stage - 4];
            for (int places = 0; places < 64; places++) {
                int asked = stage;
                GrandsireLoft loft = new GrandsireLoft();
                loft.change(changes[0]);
                loft.change(places);
                loft.change(changes[1]);
                if (isAmong(changes, places)) {
                    CHECK.same("method(" + stage + ") with " + places, 0, loft.method(stage));
                    CHECK.same("the draft behind method", 0, loft.dropChanges());
                } else {
                    CHECK.noState("method(" + stage + ") with " + places, () -> loft.method(asked));
                    CHECK.same("the draft behind a refusal", 3, loft.dropChanges());
                }
            }
        }
    }

    private static void methodRefuses() {
        GrandsireLoft loft = new GrandsireLoft();
        CHECK.noState("method(4) of nothing", () -> loft.method(4));
        CHECK.noArgument("method(3) of nothing", () -> loft.method(3));
        CHECK.noArgument("method(7) of nothing", () -> loft.method(7));
        loft.change(0);
        CHECK.noArgument("method(3)", () -> loft.method(3));
        CHECK.noArgument("method(7)", () -> loft.method(7));
        CHECK.noState("method(5) of no change of five", () -> loft.method(5));
        CHECK.noIndex("no method is made by that", () -> loft.stage(0));
        loft.change(16);
        CHECK.noState("method(6), the last being no change", () -> loft.method(6));
        loft.dropChanges();
        loft.change(15);
        CHECK.noState("method(4) of all places made", () -> loft.method(4));
        CHECK.same("method(6) of the same", 0, loft.method(6));
    }

    private static void methodsAreAtMostEight() {
        GrandsireLoft loft = new GrandsireLoft();
        for (int number = 0; number < 8; number++) {
            loft.change(0);
            CHECK.same("number of a method", number, loft.method(number % 2 == 0 ? 4 : 6));
        }
        loft.change(0);
        CHECK.noState("the ninth method", () -> loft.method(4));
        CHECK.noArgument("the ninth method, of no stage", () -> loft.method(3));
        CHECK.noIndex("stage(8)", () -> loft.stage(8));
        CHECK.same("stage(7)", 6, loft.stage(7));
        CHECK.same("its draft stays", 1, loft.dropChanges());
    }

    private static void setCall() {
        GrandsireLoft loft = new GrandsireLoft();
        Lofts.hunt(loft);
        int method = Lofts.minimus(loft);
        CHECK.same("the first BOB", 3, loft.setCall(method, GrandsireLoft.BOB, 9));
        CHECK.same("the second BOB", 9, loft.setCall(method, GrandsireLoft.BOB, 12));
        CHECK.same("the first SINGLE", 3, loft.setCall(method, GrandsireLoft.SINGLE, 0));
        CHECK.same("the second SINGLE", 0, loft.setCall(method, GrandsireLoft.SINGLE, 9));
        CHECK.same("BOB is not SINGLE", 12, loft.changeAt(method, GrandsireLoft.BOB, 7));
        CHECK.same("PLAIN stays", 3, loft.changeAt(method, GrandsireLoft.PLAIN, 7));
        CHECK.same("another method stays", 9, loft.changeAt(0, GrandsireLoft.BOB, 1));
        CHECK.same("head of PLAIN", 3, loft.head(method, GrandsireLoft.PLAIN));
        CHECK.same("head of BOB", 12, loft.head(method, GrandsireLoft.BOB));
        CHECK.same("head of SINGLE", 0, loft.head(method, GrandsireLoft.SINGLE));
    }

    private static void setCallRefuses() {
        GrandsireLoft loft = new GrandsireLoft();
        CHECK.noIndex("setCall of no method", () -> loft.setCall(0, GrandsireLoft.BOB, 9));
        Lofts.hunt(loft);
        CHECK.noIndex("setCall(-1, 0, 5)", () -> loft.setCall(-1, 0, 5));
        CHECK.noIndex("setCall(1, 3, 5)", () -> loft.setCall(1, 3, 5));
        CHECK.noArgument("setCall of PLAIN", () -> loft.setCall(0, GrandsireLoft.PLAIN, 9));
        CHECK.noArgument("setCall(0, 3, 9)", () -> loft.setCall(0, 3, 9));
        CHECK.noArgument("setCall(0, -1, 9)", () -> loft.setCall(0, -1, 9));
        CHECK.noArgument("setCall of no change", () -> loft.setCall(0, GrandsireLoft.BOB, 5));
        CHECK.same("nothing is changed by that", 9, loft.setCall(0, GrandsireLoft.BOB, 0));
    }

    private static void setCallTakesTheChangesOfTheStage() {
        for (int stage = 4; stage <= 6; stage++) {
            int[] changes = CHANGES[stage - 4];
            GrandsireLoft loft = new GrandsireLoft();
            Lofts.method(loft, stage, changes[0]);
            int before = changes[0];
            for (int places = -1; places <= 64; places++) {
                int asked = places;
                if (isAmong(changes, places)) {
                    CHECK.same("setCall of " + places, before, loft.setCall(0, GrandsireLoft.BOB, places));
                    before = places;
                } else {
                    CHECK.noArgument("setCall of " + places, () -> loft.setCall(0, GrandsireLoft.BOB, asked));
                }
            }
            CHECK.noArgument("setCall of the least", () -> loft.setCall(0, GrandsireLoft.BOB, Integer.MIN_VALUE));
            CHECK.noArgument("setCall of the greatest", () -> loft.setCall(0, GrandsireLoft.BOB, Integer.MAX_VALUE));
        }
    }

    private static void setCallInARinging() {
        GrandsireLoft loft = new GrandsireLoft();
        Lofts.plainTouch(loft, Lofts.hunt(loft), 4);
        loft.plan(0, 0);
        loft.ring(0, 1, 100);
        CHECK.noState("setCall in a ringing", () -> loft.setCall(0, GrandsireLoft.BOB, 3));
        CHECK.noArgument("setCall of no call in a ringing", () -> loft.setCall(0, GrandsireLoft.PLAIN, 3));
        CHECK.noIndex("setCall of no method in a ringing", () -> loft.setCall(1, GrandsireLoft.BOB, 3));
        loft.stand();
        CHECK.same("setCall behind it", 9, loft.setCall(0, GrandsireLoft.BOB, 3));
    }

    private static void stage() {
        GrandsireLoft loft = new GrandsireLoft();
        CHECK.noIndex("stage(0) of no method", () -> loft.stage(0));
        Lofts.huntOfFive(loft);
        Lofts.cross(loft);
        Lofts.minor(loft);
        CHECK.same("stage(0)", 5, loft.stage(0));
        CHECK.same("stage(1)", 4, loft.stage(1));
        CHECK.same("stage(2)", 6, loft.stage(2));
        CHECK.noIndex("stage(3)", () -> loft.stage(3));
        CHECK.noIndex("stage(-1)", () -> loft.stage(-1));
    }

    private static void changeAt() {
        GrandsireLoft loft = new GrandsireLoft();
        CHECK.noIndex("changeAt of no method", () -> loft.changeAt(0, 0, 0));
        int[] changes = {0, 33, 12, 9, 36, 48, 3, 15, 60, 57, 51, 39};
        Lofts.method(loft, 6, changes);
        loft.setCall(0, GrandsireLoft.BOB, 0);
        for (int place = 0; place < 12; place++) {
            CHECK.same("changeAt PLAIN", changes[place], loft.changeAt(0, GrandsireLoft.PLAIN, place));
            CHECK.same("changeAt BOB", place == 11 ? 0 : changes[place], loft.changeAt(0, GrandsireLoft.BOB, place));
            CHECK.same("changeAt SINGLE", changes[place], loft.changeAt(0, GrandsireLoft.SINGLE, place));
        }
        CHECK.same("changeAt behind the lead", GrandsireLoft.NONE, loft.changeAt(0, GrandsireLoft.PLAIN, 12));
        CHECK.same("changeAt far behind", GrandsireLoft.NONE, loft.changeAt(0, 2, Integer.MAX_VALUE));
        CHECK.noIndex("changeAt(0, 0, -1)", () -> loft.changeAt(0, 0, -1));
        CHECK.noIndex("changeAt(0, 3, -1)", () -> loft.changeAt(0, 3, -1));
        CHECK.noIndex("changeAt(1, 3, 0)", () -> loft.changeAt(1, 3, 0));
        CHECK.noArgument("changeAt(0, 3, 0)", () -> loft.changeAt(0, 3, 0));
        CHECK.noArgument("changeAt(0, -1, 12)", () -> loft.changeAt(0, -1, 12));
        Lofts.cross(loft);
        Lofts.method(loft, 4, 12, 3, 9);
        CHECK.same("changeAt of another first change", 12, loft.changeAt(2, GrandsireLoft.BOB, 0));
        CHECK.same("changeAt of another second change", 3, loft.changeAt(2, GrandsireLoft.BOB, 1));
        CHECK.same("head of 1023 1032 1302", 10, loft.head(2, GrandsireLoft.PLAIN));
        loft.setCall(1, GrandsireLoft.SINGLE, 9);
        CHECK.same("changeAt of a lead of one", 9, loft.changeAt(1, GrandsireLoft.SINGLE, 0));
        CHECK.same("changeAt of a lead of one, PLAIN", 0, loft.changeAt(1, GrandsireLoft.PLAIN, 0));
    }

    private static void head() {
        GrandsireLoft loft = new GrandsireLoft();
        CHECK.noIndex("head of no method", () -> loft.head(0, 0));
        Lofts.cross(loft);
        Lofts.method(loft, 5, 16);
        Lofts.crossOfSix(loft);
        Lofts.method(loft, 4, 0, 9, 0, 9);
        Lofts.method(loft, 5, 16, 1, 16, 1, 16);
        Lofts.method(loft, 6, 0, 33, 0, 33, 0, 33);
        Lofts.minimus(loft);
        int[] heads = {7, 26, 127, 23, 119, 719, 3};
        for (int method = 0; method < heads.length; method++) {
            CHECK.same("head of " + method, heads[method], loft.head(method, GrandsireLoft.PLAIN));
            CHECK.same("head of BOB at first", heads[method], loft.head(method, GrandsireLoft.BOB));
        }
        loft.setCall(6, GrandsireLoft.SINGLE, 12);
        CHECK.same("head of SINGLE", 12, loft.head(6, GrandsireLoft.SINGLE));
        CHECK.same("head of BOB stays", 3, loft.head(6, GrandsireLoft.BOB));
        CHECK.noIndex("head(7, 3)", () -> loft.head(7, 3));
        CHECK.noIndex("head(-1, 0)", () -> loft.head(-1, 0));
        CHECK.noArgument("head(0, 3)", () -> loft.head(0, 3));
        CHECK.noArgument("head(0, -1)", () -> loft.head(0, -1));
    }

    private static void course() {
        GrandsireLoft loft = new GrandsireLoft();
        CHECK.noIndex("course of no method", () -> loft.course(0));
        Lofts.cross(loft);
        Lofts.hunt(loft);
        Lofts.huntOfFive(loft);
        Lofts.method(loft, 6, 0, 33);
        Lofts.minimus(loft);
        Lofts.minor(loft);
        Lofts.method(loft, 4, 0, 0);
        int[] courses = {2, 4, 5, 6, 3, 5, 1};
        for (int method = 0; method < courses.length; method++) {
            loft.setCall(method, GrandsireLoft.BOB, loft.stage(method) == 5 ? 7 : 3);
            CHECK.same("course of " + method, courses[method], loft.course(method));
        }
        CHECK.noIndex("course(7)", () -> loft.course(7));
        CHECK.noIndex("course(-1)", () -> loft.course(-1));
    }

    private static void isFalse() {
        GrandsireLoft loft = new GrandsireLoft();
        CHECK.noIndex("isFalse of no method", () -> Check.one(loft.isFalse(0, 0)));
        Lofts.hunt(loft);
        Lofts.method(loft, 4, 0, 0);
        Lofts.huntOfFive(loft);
        Lofts.minor(loft);
        Lofts.cross(loft);
        for (int row = 0; row < 24; row++) {
            // hunt has the rows 1032 and 1302, and only 3120 leads from one to the other
            CHECK.same("isFalse of hunt, " + row, row == 21 ? 1 : 0, Check.one(loft.isFalse(0, row)));
            CHECK.same("isFalse of there and back, " + row, row == 7 ? 1 : 0, Check.one(loft.isFalse(1, row)));
            CHECK.no("isFalse of one change", loft.isFalse(4, row));
        }
        CHECK.no("isFalse of rounds", loft.isFalse(3, 0));
        CHECK.noIndex("isFalse(0, 24)", () -> Check.one(loft.isFalse(0, 24)));
        CHECK.noIndex("isFalse(2, 120)", () -> Check.one(loft.isFalse(2, 120)));
        CHECK.noIndex("isFalse(3, 720)", () -> Check.one(loft.isFalse(3, 720)));
        CHECK.noIndex("isFalse(0, -1)", () -> Check.one(loft.isFalse(0, -1)));
        CHECK.noIndex("isFalse(5, 0)", () -> Check.one(loft.isFalse(5, 0)));
        CHECK.noIndex("isFalse(-1, 0)", () -> Check.one(loft.isFalse(-1, 0)));
        CHECK.no("isFalse(2, 119)", loft.isFalse(2, 119));
        CHECK.yes("isFalse(2, 82)", loft.isFalse(2, 82));
        CHECK.yes("isFalse(3, 719)", loft.isFalse(3, 719));
        CHECK.yes("isFalse(3, 26)", loft.isFalse(3, 26));
        CHECK.no("isFalse(3, 25)", loft.isFalse(3, 25));
        loft.setCall(0, GrandsireLoft.BOB, 0);
        CHECK.yes("isFalse goes by PLAIN", loft.isFalse(0, 21));
        CHECK.no("isFalse goes by PLAIN alone", loft.isFalse(0, 7));
    }

    private static void falseRows() {
        GrandsireLoft loft = new GrandsireLoft();
        CHECK.noIndex("falseRows of no method", () -> loft.falseRows(0));
        Lofts.cross(loft);
        Lofts.hunt(loft);
        Lofts.method(loft, 4, 0, 0);
        Lofts.minimus(loft);
        Lofts.minor(loft);
        Lofts.huntOfFive(loft);
        int[] counts = {0, 1, 1, 17, 31, 1};
        for (int method = 0; method < counts.length; method++) {
            loft.setCall(method, GrandsireLoft.BOB, loft.stage(method) == 5 ? 7 : 12);
            CHECK.same("falseRows of " + method, counts[method], loft.falseRows(method));
        }
        int told = 0;
        for (int row = 0; row < 720; row++) {
            told += loft.isFalse(4, row) ? 1 : 0;
        }
        CHECK.same("isFalse of all rows", 31, told);
        CHECK.noIndex("falseRows(6)", () -> loft.falseRows(6));
        CHECK.noIndex("falseRows(-1)", () -> loft.falseRows(-1));
    }
}
