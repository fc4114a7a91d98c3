/** Promises 12 to 24: touches. */
public final class TouchesTest {
    private static final int[] HUNT = {7, 10, 21, 23, 16, 13, 2, 0};
    private static final int[] HUNT_OF_FIVE = {26, 37, 82, 93, 119, 112, 67, 52, 7, 0};

    private static final Check CHECK = new Check("TouchesTest");

    public static void main(String[] args) {
        lead();
        leadOfAnotherStage();
        dropLeads();
        touch();
        touchesAreAtMostTwelve();
        composeTakesTheLeastCalls();
        composeKeepsWhatIsThere();
        composeRefuses();
        leadsAndLeadAt();
        rowsOfMethodsUnlike();
        rowAtAndBellAt();
        rowsGoByTheCallsOfNow();
        mostRows();
        trueAndRound();
        repeatInsideALead();
        CHECK.end();
    }

    private static void lead() {
        GrandsireLoft loft = new GrandsireLoft();
        CHECK.noIndex("lead of no method", () -> loft.lead(0, 0));
        Lofts.hunt(loft);
        CHECK.noIndex("lead(1, 3)", () -> loft.lead(1, 3));
        CHECK.noIndex("lead(-1, 0)", () -> loft.lead(-1, 0));
        CHECK.noArgument("lead(0, 3)", () -> loft.lead(0, 3));
        CHECK.noArgument("lead(0, -1)", () -> loft.lead(0, -1));
        for (int count = 1; count <= 20; count++) {
            CHECK.same("lead of the draft", count, loft.lead(0, count % 3));
        }
        CHECK.noState("the 21st lead", () -> loft.lead(0, 0));
        CHECK.noArgument("the 21st lead, with no call", () -> loft.lead(0, 3));
        CHECK.noIndex("the 21st lead, of no method", () -> loft.lead(1, 0));
        CHECK.same("dropLeads() of a full draft", 20, loft.dropLeads());
    }

    private static void leadOfAnotherStage() {
        GrandsireLoft loft = new GrandsireLoft();
        Lofts.hunt(loft);
        Lofts.huntOfFive(loft);
        Lofts.cross(loft);
        loft.lead(0, 0);
        CHECK.noState("lead of a greater stage", () -> loft.lead(1, 0));
        CHECK.noArgument("lead of a greater stage, with no call", () -> loft.lead(1, 3));
        CHECK.same("lead of another method of the stage", 2, loft.lead(2, 0));
        loft.dropLeads();
        CHECK.same("lead of the other stage behind dropLeads", 1, loft.lead(1, 0));
        CHECK.noState("lead of a lesser stage", () -> loft.lead(0, 0));
        CHECK.same("touch of the other stage", 0, loft.touch());
        CHECK.same("lead of the first stage behind touch", 1, loft.lead(0, 0));
    }

    private static void dropLeads() {
        GrandsireLoft loft = new GrandsireLoft();
        CHECK.same("dropLeads() of none", 0, loft.dropLeads());
        Lofts.hunt(loft);
        loft.change(0);
        loft.lead(0, 1);
        loft.lead(0, 2);
        CHECK.same("dropLeads() of two", 2, loft.dropLeads());
        CHECK.same("dropLeads() once more", 0, loft.dropLeads());
        CHECK.same("the draft of a lead stays", 1, loft.dropChanges());
        CHECK.noState("touch() behind dropLeads", () -> loft.touch());
        loft.lead(0, 0);
        loft.touch();
        CHECK.same("leads of what came behind", 1, loft.leads(0));
        CHECK.same("its lead", 0, loft.leadAt(0, 0));
    }

    private static void touch() {
        GrandsireLoft loft = new GrandsireLoft();
        CHECK.noState("touch() of nothing", () -> loft.touch());
        CHECK.same("touches()", 0, loft.touches());
        Lofts.hunt(loft);
        CHECK.noState("touch() of no leads", () -> loft.touch());
        loft.lead(0, 0);
        CHECK.same("touch()", 0, loft.touch());
        CHECK.same("touches() of one", 1, loft.touches());
        CHECK.same("the draft behind touch()", 0, loft.dropLeads());
        CHECK.noState("touch() of the empty draft", () -> loft.touch());
        CHECK.same("touches() stays", 1, loft.touches());
        CHECK.same("leads(0) stays", 1, loft.leads(0));
        CHECK.same("the next touch()", 1, Lofts.touch(loft, 0, 1, 2));
        CHECK.same("leads(0) beside it", 1, loft.leads(0));
        CHECK.same("leads(1)", 3, loft.leads(1));
    }

    private static void touchesAreAtMostTwelve() {
        GrandsireLoft loft = new GrandsireLoft();
        Lofts.hunt(loft);
        for (int number = 0; number < 12; number++) {
            CHECK.same("number of a touch", number, number == 5 ? loft.compose(0, 4) : Lofts.touch(loft, 0));
            CHECK.same("touches()", number + 1, loft.touches());
        }
        loft.lead(0, 0);
        CHECK.noState("the 13th touch", () -> loft.touch());
        CHECK.same("its draft stays", 1, loft.dropLeads());
        CHECK.noState("the 13th touch, composed", () -> loft.compose(0, 4));
        CHECK.noState("the 13th touch, none being sound", () -> loft.compose(0, 3));
        CHECK.noArgument("the 13th touch, of no leads", () -> loft.compose(0, 0));
        CHECK.noIndex("the 13th touch, of no method", () -> loft.compose(1, 4));
        CHECK.same("touches() of twelve", 12, loft.touches());
    }

    private static void composes(int stage, int[] changes, int bob, int single, String... due) {
        GrandsireLoft loft = new GrandsireLoft();
        Lofts.method(loft, stage, 0);
        Lofts.method(loft, stage, changes);
        loft.setCall(1, GrandsireLoft.BOB, bob);
        loft.setCall(1, GrandsireLoft.SINGLE, single);
        int made = 0;
        for (int leads = 1; leads <= 6; leads++) {
            String calls = due[leads - 1];
            String call = "compose of " + leads + " leads, BOB " + bob + ", SINGLE " + single;
            int touch = loft.compose(1, leads);
            CHECK.same(call, calls.isEmpty() ? GrandsireLoft.NONE : made, touch);
            if (touch == GrandsireLoft.NONE) {
                continue;
            }
            made++;
            CHECK.same(call + ": leads", calls.length(), loft.leads(touch));
            for (int lead = 0; lead < Math.min(calls.length(), loft.leads(touch)); lead++) {
                CHECK.same(call + ": lead " + lead, 10 + calls.charAt(lead) - '0', loft.leadAt(touch, lead));
            }
            CHECK.same(call + ": rows", (long) leads * changes.length, loft.rows(touch));
            CHECK.yes(call + ": isTrue", loft.isTrue(touch));
            CHECK.yes(call + ": comesRound", loft.comesRound(touch));
            CHECK.same(call + ": last row", 0, loft.rowAt(touch, loft.rows(touch) - 1));
        }
        CHECK.same("touches() behind compose", made, loft.touches());
    }

    private static void composeTakesTheLeastCalls() {
        int[] minor = {0, 33, 0, 33, 0, 33, 0, 33, 0, 33, 0, 3};
        int[] minimus = {0, 9, 0, 9, 0, 9, 0, 3};
        composes(4, new int[] {0}, 9, 3, "", "00", "", "0202", "", "121212");
        composes(4, new int[] {9}, 0, 3, "", "00", "", "1212", "", "020202");
        composes(4, new int[] {3}, 12, 0, "", "00", "012", "0101", "", "");
        composes(6, minor, 9, 15, "", "", "111", "", "00000", "001001");
        composes(6, minor, 15, 9, "", "", "112", "", "00000", "002002");
        composes(6, minor, 33, 15, "1", "", "", "", "00000", "222222");
        composes(6, minor, 33, 33, "1", "", "", "", "00000", "");
        composes(6, minor, 3, 33, "2", "", "", "", "00000", "");
        composes(6, minor, 3, 3, "", "", "", "", "00000", "");
        composes(6, new int[] {0, 33}, 12, 9, "", "11", "", "2222", "", "000000");
        composes(4, minimus, 9, 12, "1", "", "000", "", "", "");
    }

    private static void composeKeepsWhatIsThere() {
        GrandsireLoft loft = new GrandsireLoft();
        Lofts.hunt(loft);
        Lofts.minimus(loft);
        loft.lead(0, 2);
        loft.lead(1, 1);
        CHECK.same("compose that finds none", GrandsireLoft.NONE, loft.compose(1, 4));
        CHECK.same("compose", 0, loft.compose(1, 3));
        CHECK.same("compose that finds none again", GrandsireLoft.NONE, loft.compose(0, 5));
        CHECK.same("compose again", 1, loft.compose(0, 4));
        CHECK.same("the draft stays", 3, loft.lead(1, 0));
        CHECK.same("touch() of the draft", 2, loft.touch());
        CHECK.same("leadAt(2, 0)", 2, loft.leadAt(2, 0));
        CHECK.same("leadAt(2, 1)", 11, loft.leadAt(2, 1));
        CHECK.same("leads(0)", 3, loft.leads(0));
        CHECK.same("leadAt(0, 2)", 10, loft.leadAt(0, 2));
        CHECK.same("rowAt(0, 7)", 3, loft.rowAt(0, 7));
        CHECK.same("leads(1)", 4, loft.leads(1));
        CHECK.same("rowAt(1, 4)", 16, loft.rowAt(1, 4));
    }

    private static void composeRefuses() {
        GrandsireLoft loft = new GrandsireLoft();
        CHECK.noIndex("compose of no method", () -> loft.compose(0, 1));
        Lofts.hunt(loft);
        CHECK.noIndex("compose(1, 0)", () -> loft.compose(1, 0));
        CHECK.noIndex("compose(-1, 7)", () -> loft.compose(-1, 7));
        CHECK.noArgument("compose(0, 0)", () -> loft.compose(0, 0));
        CHECK.noArgument("compose(0, 7)", () -> loft.compose(0, 7));
        CHECK.same("touches()", 0, loft.touches());
    }

    private static void leadsAndLeadAt() {
        GrandsireLoft loft = new GrandsireLoft();
        CHECK.noIndex("leads of no touch", () -> loft.leads(0));
        CHECK.noIndex("leadAt of no touch", () -> loft.leadAt(0, 0));
        for (int method = 0; method < 8; method++) {
            Lofts.cross(loft);
        }
        int[] leads = {70, 1, 32, 11, 22};
        Lofts.touch(loft, leads);
        CHECK.same("leads(0)", 5, loft.leads(0));
        for (int lead = 0; lead < leads.length; lead++) {
            CHECK.same("leadAt(0, " + lead + ")", leads[lead], loft.leadAt(0, lead));
        }
        CHECK.noIndex("leads(1)", () -> loft.leads(1));
        CHECK.noIndex("leads(-1)", () -> loft.leads(-1));
        CHECK.noIndex("leadAt(0, 5)", () -> loft.leadAt(0, 5));
        CHECK.noIndex("leadAt(0, -1)", () -> loft.leadAt(0, -1));
        CHECK.noIndex("leadAt(1, 0)", () -> loft.leadAt(1, 0));
        CHECK.noIndex("leadAt(-1, 0)", () -> loft.leadAt(-1, 0));
    }

    private static void rowsOfMethodsUnlike() {
        GrandsireLoft loft = new GrandsireLoft();
        CHECK.noIndex("rows of no touch", () -> loft.rows(0));
        Lofts.hunt(loft);
        Lofts.minimus(loft);
        Lofts.cross(loft);
        Lofts.touch(loft, 20, 10, 0);
        CHECK.same("rows(0)", 11, loft.rows(0));
        CHECK.same("the first row", 7, loft.rowAt(0, 0));
        // from 1032 on the minimus has the rows of its lead with 0 for 1, 1 for 0, 2 for 3 and 3 for 2
        int[] minimus = {0, 2, 13, 16, 23, 21, 10, 11};
        for (int row = 0; row < 8; row++) {
            CHECK.same("row " + (row + 1), minimus[row], loft.rowAt(0, row + 1));
        }
        CHECK.same("row 9", 20, loft.rowAt(0, 9));
        CHECK.same("row 10", 18, loft.rowAt(0, 10));
        CHECK.noIndex("rows(1)", () -> loft.rows(1));
        CHECK.noIndex("rows(-1)", () -> loft.rows(-1));
    }

    private static void rowAtAndBellAt() {
        GrandsireLoft loft = new GrandsireLoft();
        CHECK.noIndex("rowAt of no touch", () -> loft.rowAt(0, 0));
        CHECK.noIndex("bellAt of no touch", () -> loft.bellAt(0, 0, 0));
        Lofts.plainTouch(loft, Lofts.hunt(loft), 4);
        Lofts.plainTouch(loft, Lofts.huntOfFive(loft), 5);
        String[] rows = {"10324", "13042", "31402", "34120", "43210", "42301", "24031", "20413", "02143", "01234"};
        for (int row = 0; row < 10; row++) {
            CHECK.same("rowAt(1, " + row + ")", HUNT_OF_FIVE[row], loft.rowAt(1, row));
            for (int place = 0; place < 5; place++) {
                String call = "bellAt(1, " + row + ", " + place + ")";
                CHECK.same(call, rows[row].charAt(place) - '0', loft.bellAt(1, row, place));
            }
        }
        for (int row = 0; row < 8; row++) {
            CHECK.same("rowAt(0, " + row + ")", HUNT[row], loft.rowAt(0, row));
        }
        CHECK.noIndex("rowAt(0, 8)", () -> loft.rowAt(0, 8));
        CHECK.noIndex("rowAt(1, 10)", () -> loft.rowAt(1, 10));
        CHECK.noIndex("rowAt(0, -1)", () -> loft.rowAt(0, -1));
        CHECK.noIndex("rowAt(2, 0)", () -> loft.rowAt(2, 0));
        CHECK.noIndex("rowAt(-1, 0)", () -> loft.rowAt(-1, 0));
        CHECK.noIndex("bellAt(0, 8, 0)", () -> loft.bellAt(0, 8, 0));
        CHECK.noIndex("bellAt(0, -1, 0)", () -> loft.bellAt(0, -1, 0));
        CHECK.noIndex("bellAt(0, 0, 4)", () -> loft.bellAt(0, 0, 4));
        CHECK.noIndex("bellAt(1, 0, 5)", () -> loft.bellAt(1, 0, 5));
        CHECK.noIndex("bellAt(0, 0, -1)", () -> loft.bellAt(0, 0, -1));
        CHECK.noIndex("bellAt(2, 0, 0)", () -> loft.bellAt(2, 0, 0));
        CHECK.noIndex("bellAt(-1, 0, 0)", () -> loft.bellAt(-1, 0, 0));
    }

    private static void rowsGoByTheCallsOfNow() {
        GrandsireLoft loft = new GrandsireLoft();
        Lofts.hunt(loft);
        Lofts.touch(loft, 1, 0, 2);
        CHECK.same("rowAt(0, 1) at first", 10, loft.rowAt(0, 1));
        loft.setCall(0, GrandsireLoft.BOB, 3);
        Lofts.touch(loft, 0, 1);
        // 1032 1023 0132 0312 3021, and then with SINGLE 9 3201
        int[] bobbed = {7, 6, 1, 4, 19, 22};
        for (int row = 0; row < 6; row++) {
            CHECK.same("rowAt(0, " + row + ") with the BOB", bobbed[row], loft.rowAt(0, row));
        }
        CHECK.same("bellAt(0, 1, 2)", 2, loft.bellAt(0, 1, 2));
        CHECK.same("rowAt(1, 3), BOB behind PLAIN", 20, loft.rowAt(1, 3));
        loft.setCall(0, GrandsireLoft.SINGLE, 12);
        CHECK.same("rowAt(0, 4) with the SINGLE", 19, loft.rowAt(0, 4));
        CHECK.same("rowAt(0, 5) with the SINGLE", 5, loft.rowAt(0, 5));
        CHECK.same("bellAt(0, 5, 1) with the SINGLE", 3, loft.bellAt(0, 5, 1));
        loft.setCall(0, GrandsireLoft.BOB, 9);
        CHECK.same("rowAt(0, 1) as at first", 10, loft.rowAt(0, 1));
    }

    private static void mostRows() {
        GrandsireLoft loft = new GrandsireLoft();
        Lofts.minor(loft);
        Lofts.plainTouch(loft, 0, 20);
        Lofts.plainTouch(loft, 0, 5);
        CHECK.same("rows of 20 leads", 240, loft.rows(0));
        CHECK.same("firstRepeat of 20 leads", 60, loft.firstRepeat(0));
        CHECK.yes("comesRound of 20 leads", loft.comesRound(0));
        for (int row = 0; row < 240; row++) {
            CHECK.same("rowAt(0, " + row + ")", loft.rowAt(1, row % 60), loft.rowAt(0, row));
        }
        CHECK.noIndex("rowAt(0, 240)", () -> loft.rowAt(0, 240));
        CHECK.same("bellAt(0, 239, 5)", 5, loft.bellAt(0, 239, 5));
        CHECK.noIndex("bellAt(0, 239, 6)", () -> loft.bellAt(0, 239, 6));
    }

    private static void proved(GrandsireLoft loft, int touch, int repeat, boolean comesRound) {
        CHECK.same("firstRepeat(" + touch + ")", repeat, loft.firstRepeat(touch));
        CHECK.same("isTrue(" + touch + ")", repeat == GrandsireLoft.NONE ? 1 : 0, Check.one(loft.isTrue(touch)));
        CHECK.same("comesRound(" + touch + ")", comesRound ? 1 : 0, Check.one(loft.comesRound(touch)));
    }

    private static void trueAndRound() {
        GrandsireLoft loft = new GrandsireLoft();
        CHECK.noIndex("isTrue of no touch", () -> Check.one(loft.isTrue(0)));
        CHECK.noIndex("comesRound of no touch", () -> Check.one(loft.comesRound(0)));
        CHECK.noIndex("firstRepeat of no touch", () -> loft.firstRepeat(0));
        Lofts.hunt(loft);
        Lofts.cross(loft);
        proved(loft, Lofts.plainTouch(loft, 0, 3), GrandsireLoft.NONE, false);
        proved(loft, Lofts.plainTouch(loft, 0, 4), GrandsireLoft.NONE, true);
        proved(loft, Lofts.plainTouch(loft, 0, 5), 8, false);
        proved(loft, Lofts.plainTouch(loft, 0, 8), 8, true);
        proved(loft, Lofts.plainTouch(loft, 1, 1), GrandsireLoft.NONE, false);
        proved(loft, Lofts.plainTouch(loft, 1, 2), GrandsireLoft.NONE, true);
        proved(loft, Lofts.touch(loft, 10, 0), GrandsireLoft.NONE, false);
        CHECK.noIndex("isTrue(7)", () -> Check.one(loft.isTrue(7)));
        CHECK.noIndex("isTrue(-1)", () -> Check.one(loft.isTrue(-1)));
        CHECK.noIndex("comesRound(7)", () -> Check.one(loft.comesRound(7)));
        CHECK.noIndex("comesRound(-1)", () -> Check.one(loft.comesRound(-1)));
        CHECK.noIndex("firstRepeat(7)", () -> loft.firstRepeat(7));
        CHECK.noIndex("firstRepeat(-1)", () -> loft.firstRepeat(-1));
    }

    private static void repeatInsideALead() {
        GrandsireLoft loft = new GrandsireLoft();
        Lofts.method(loft, 4, 0, 9, 9, 0);
        Lofts.hunt(loft);
        proved(loft, Lofts.touch(loft, 0), 2, true);
        proved(loft, Lofts.plainTouch(loft, 1, 4), GrandsireLoft.NONE, true);
        proved(loft, Lofts.touch(loft, 10, 11, 10, 12), GrandsireLoft.NONE, true);
        loft.setCall(1, GrandsireLoft.BOB, 0);
        // 1032 1302 3120 1302 3120 3210 2301 2031
        proved(loft, 2, 3, false);
        proved(loft, 1, GrandsireLoft.NONE, true);
        loft.setCall(1, GrandsireLoft.BOB, 9);
        proved(loft, 2, GrandsireLoft.NONE, true);
    }
}
