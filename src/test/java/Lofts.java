/** Methods and touches that the tests use again and again. */
final class Lofts {
    private Lofts() {
    }

    static int method(GrandsireLoft loft, int stage, int... changes) {
        for (int places : changes) {
            loft.change(places);
        }
        return loft.method(stage);
    }

    /** All neighbours swap: the rows are 1032 and rounds by turns. */
    static int cross(GrandsireLoft loft) {
        return method(loft, 4, 0);
    }

    /** Plain hunt on four: eight rows come round in four leads. */
    static int hunt(GrandsireLoft loft) {
        return method(loft, 4, 0, 9);
    }

    /** Plain hunt on five: ten rows come round in five leads. */
    static int huntOfFive(GrandsireLoft loft) {
        return method(loft, 5, 16, 1);
    }

    /** All neighbours swap on six: two rows come round in two leads. */
    static int crossOfSix(GrandsireLoft loft) {
        return method(loft, 6, 0);
    }

    /** Plain Bob Minimus: 24 rows come round in three leads. */
    static int minimus(GrandsireLoft loft) {
        return method(loft, 4, 0, 9, 0, 9, 0, 9, 0, 3);
    }

    /** Plain Bob Minor: 60 rows come round in five leads. */
    static int minor(GrandsireLoft loft) {
        return method(loft, 6, 0, 33, 0, 33, 0, 33, 0, 33, 0, 33, 0, 3);
    }

    /** A touch of leads, each 10 times the method and the call, together. */
    static int touch(GrandsireLoft loft, int... leads) {
        for (int lead : leads) {
            loft.lead(lead / 10, lead % 10);
        }
        return loft.touch();
    }

    static int plainTouch(GrandsireLoft loft, int method, int leads) {
        for (int lead = 0; lead < leads; lead++) {
            loft.lead(method, GrandsireLoft.PLAIN);
        }
        return loft.touch();
    }

    /** A touch that is planned for today and rung by the trainer alone; returns how many rows were done. */
    static int ringAlone(GrandsireLoft loft, int touch) {
        loft.plan(loft.today(), touch);
        return loft.ring(touch, 0, 100);
    }
}
