/** Promises 28 to 37: the folded design. */
public final class FoldedTest {
    private static final int BAD = -1, STATE = -2, NONE = -9;
    private static final Due due = new Due();

    public static void main(String[] args) {
        corners();
        chainOfFolds();
        openSides();
        openSidesWithTolerance();
        seams();
        gaps();
        coverages();
        volumes();
        tolerances();
        crossingPanels();
        crossingPairs();
        crossingLimits();
        orders();
        due.end();
    }

    private static DieLineChecker withBase(int x, int y, int width, int height) {
        DieLineChecker made = new DieLineChecker();
        due.is("setBase", made.setBase(x, y, width, height), 0);
        return made;
    }

    private static void cornerIs(DieLineChecker x, int panel, int corner, int... place) {
        for (int axis = 0; axis < 3; axis++) {
            due.is("28 corner(" + panel + ", " + corner + ", " + axis + ")", x.corner(panel, corner, axis), place[axis]);
        }
    }

    /** Each side and each angle, from a base at x 50 to 70 and y 60 to 70. */
    private static void corners() {
        // lower left and upper right corner, and the normal, for the angles -1, 0, 1, 2
        int[][][] south = {
            {{53, 60, 5}, {57, 60, 0}, {2}}, {{53, 55, 0}, {57, 60, 0}, {4}},
            {{53, 60, -5}, {57, 60, 0}, {3}}, {{53, 65, 0}, {57, 60, 0}, {5}}};
        int[][][] east = {
            {{70, 63, 0}, {70, 67, 5}, {1}}, {{70, 63, 0}, {75, 67, 0}, {4}},
            {{70, 63, 0}, {70, 67, -5}, {0}}, {{70, 63, 0}, {65, 67, 0}, {5}}};
        int[][][] north = {
            {{53, 70, 0}, {57, 70, 5}, {3}}, {{53, 70, 0}, {57, 75, 0}, {4}},
            {{53, 70, 0}, {57, 70, -5}, {2}}, {{53, 70, 0}, {57, 65, 0}, {5}}};
        int[][][] west = {
            {{50, 63, 5}, {50, 67, 0}, {0}}, {{45, 63, 0}, {50, 67, 0}, {4}},
            {{50, 63, -5}, {50, 67, 0}, {1}}, {{55, 63, 0}, {50, 67, 0}, {5}}};
        int[][][][] due3 = {south, east, north, west};
        for (int side = 0; side < 4; side++) {
            DieLineChecker x = withBase(50, 60, 20, 10);
            x.addPanel(0, side, 3, 4, 5, 0);
            for (int angle = -1; angle <= 2; angle++) {
                x.setAngle(1, angle);
                int[][] want = due3[side][angle + 1];
                cornerIs(x, 1, 0, want[0]);
                cornerIs(x, 1, 2, want[1]);
                due.is("29 facing, side " + side + " angle " + angle, x.facing(1), want[2][0]);
            }
        }
        DieLineChecker x = withBase(50, 60, 20, 10);
        cornerIs(x, 0, 0, 50, 60, 0);
        cornerIs(x, 0, 1, 70, 60, 0);
        cornerIs(x, 0, 2, 70, 70, 0);
        cornerIs(x, 0, 3, 50, 70, 0);
        due.is("29 base", x.facing(0), 4);
        due.is("28 no panel", x.corner(1, 0, 0), BAD);
        due.is("28 panel below", x.corner(-1, 0, 0), BAD);
        due.is("28 corner below", x.corner(0, -1, 0), BAD);
        due.is("28 corner above", x.corner(0, 4, 0), BAD);
        due.is("28 axis below", x.corner(0, 0, -1), BAD);
        due.is("28 axis above", x.corner(0, 0, 3), BAD);
        due.is("29 no panel", x.facing(1), BAD);
        due.is("29 panel below", x.facing(-1), BAD);
    }

    private static void chainOfFolds() {
        DieLineChecker x = withBase(50, 60, 20, 10);
        x.addPanel(0, 1, 0, 10, 5, 1);
        x.addPanel(1, 2, 0, 5, 7, 1);
        // Panel 1 hangs down at x 70; panel 2 goes on from its north side to the west, at y 70.
        cornerIs(x, 1, 1, 70, 60, -5);
        cornerIs(x, 2, 0, 70, 70, 0);
        cornerIs(x, 2, 1, 70, 70, -5);
        cornerIs(x, 2, 2, 63, 70, -5);
        cornerIs(x, 2, 3, 63, 70, 0);
        due.is("29 panel 1", x.facing(1), 0);
        due.is("29 panel 2", x.facing(2), 2);
    }

    private static void openSides() {
        DieLineChecker x = withBase(50, 60, 20, 10);
        due.is("30 no panel", x.openLength(1, 0), BAD);
        due.is("30 panel below", x.openLength(-1, 0), BAD);
        due.is("30 side below", x.openLength(0, -1), BAD);
        due.is("30 side above", x.openLength(0, 4), BAD);
        due.is("30 base 0", x.openLength(0, 0), 20);
        due.is("30 base 1", x.openLength(0, 1), 10);
        x.setLimit(0, 0);
        x.addPanel(0, 2, 3, 4, 5, 1);
        x.addPanel(0, 2, 10, 6, 5, 1);
        due.is("30 two folds", x.openLength(0, 2), 10);
        due.is("30 near side", x.openLength(1, 0), 0);
        due.is("30 far side", x.openLength(1, 2), 4);
        due.is("30 free side", x.openLength(1, 1), 5);
        x.setSize(2, 0, 7);
        due.is("30 sides that lie together", x.openLength(1, 1), 0);
        due.is("30 and the other one", x.openLength(2, 3), 0);
        x.setAngle(2, -1);
        due.is("30 apart again", x.openLength(1, 1), 5);
    }

    private static void openSidesWithTolerance() {
        DieLineChecker x = withBase(50, 60, 20, 10);
        x.addPanel(0, 2, 3, 4, 5, 1);
        x.addPanel(0, 2, 10, 6, 5, 1);
        // The folds are 3 to 7 and 10 to 16, extended by 1 they are 2 to 8 and 9 to 17.
        due.is("30 tolerance 1", x.openLength(0, 2), 6);
        x.setLimit(0, 2);
        due.is("30 tolerance 2", x.openLength(0, 2), 3);
        x.setLimit(0, 3);
        due.is("30 tolerance 3", x.openLength(0, 2), 1);
        x.setLimit(0, 4);
        due.is("30 tolerance 4", x.openLength(0, 2), 0);
        // Now the panels' own sides meet too: 1 side 1 and 2 side 3 are 3 apart.
        due.is("30 near enough", x.openLength(1, 1), 0);
        x.setLimit(0, 2);
        due.is("30 not near enough", x.openLength(1, 1), 5);
    }

    private static void seamIs(DieLineChecker x, int seam, int... values) {
        for (int what = 0; what < values.length; what++) {
            due.is("32 seam(" + seam + ", " + what + ")", x.seam(seam, what), values[what]);
        }
    }

    private static void seams() {
        DieLineChecker x = new DieLineChecker();
        due.is("31 nothing", x.seamCount(), 0);
        due.is("32 nothing", x.seam(0, 0), BAD);
        x.setBase(50, 60, 20, 10);
        due.is("31 base", x.seamCount(), 0);
        // A corner of a tray: both panels hang down and meet at the edge x 70, y 70.
        x.addPanel(0, 2, 0, 20, 6, 1);
        x.addPanel(0, 1, 2, 8, 5, 1);
        due.is("31 corner", x.seamCount(), 3);
        seamIs(x, 0, 0, 1, 2, 3, 8, 0, 1, NONE);
        seamIs(x, 1, 0, 2, 1, 0, 20, 0, 1, NONE);
        seamIs(x, 2, 1, 1, 2, 2, 5, 0, 0, NONE);
        due.is("32 seam below", x.seam(-1, 0), BAD);
        due.is("32 seam above", x.seam(3, 0), BAD);
        due.is("32 what below", x.seam(0, -1), BAD);
        due.is("32 what above", x.seam(0, 8), BAD);
        x.setAngle(2, 0);
        due.is("31 only folds", x.seamCount(), 2);
    }

    private static void gaps() {
        DieLineChecker x = withBase(50, 60, 20, 10);
        x.addPanel(0, 2, 0, 18, 6, 1);
        x.addPanel(0, 1, 0, 7, 5, 1);
        // The free edges are at x 68, y 70 and at x 70, y 67.
        due.is("31 too far", x.seamCount(), 2);
        x.setLimit(0, 2);
        due.is("31 still too far in y", x.seamCount(), 2);
        x.setLimit(0, 3);
        // Within 3 also the base's sides come near the children's near sides of the other direction: none here.
        due.is("31 within the tolerance", x.seamCount(), 3);
        seamIs(x, 2, 1, 1, 2, 2, 5, 3, 0);
        due.is("30 closed by it", x.openLength(2, 2), 0);
        due.is("30 6 of which 5 and 3 more are closed", x.openLength(1, 1), 0);
    }

    private static void coverages() {
        DieLineChecker x = withBase(50, 60, 20, 10);
        x.addPanel(0, 1, 0, 10, 1, 2);
        x.addPanel(1, 1, 0, 10, 9, 2);
        due.is("33 no panel", x.coverage(3), BAD);
        due.is("33 panel below", x.coverage(-1), BAD);
        due.is("33 not a flap", x.coverage(1), NONE);
        due.is("33 base", x.coverage(0), NONE);
        x.setFlap(1, 0);
        x.setFlap(2, 0);
        due.is("33 other normal", x.coverage(1), 0);
        // Panel 2 begins at x 69 and goes to the east: 1 of its 9 units lies on the base.
        due.is("33 rounded down", x.coverage(2), 11);
        x.setSize(1, 2, 6);
        due.is("33 6 of 9", x.coverage(2), 66);
        x.setFlap(2, 1);
        due.is("33 other normal of 1", x.coverage(2), 0);
        x.setAngle(1, 0);
        x.setAngle(2, 0);
        x.setFlap(2, 0);
        due.is("33 beside it", x.coverage(2), 0);

        DieLineChecker dot = withBase(50, 60, 2, 1);
        dot.addPanel(0, 1, 0, 1, 1, 2);
        dot.addPanel(1, 1, 0, 1, 1, 2);
        dot.setFlap(2, 0);
        due.is("33 the smallest flap", dot.coverage(2), 100);

        DieLineChecker y = withBase(50, 60, 20, 10);
        y.addPanel(0, 1, 0, 10, 2, 1);
        y.addPanel(1, 1, 0, 10, 4, -1);
        y.addPanel(2, 1, 0, 10, 7, -1);
        y.addPanel(3, 1, 0, 10, 7, -1);
        // Panel 4 goes back over panel 2 at z 5 and on over the base.
        y.setFlap(4, 2);
        due.is("33 planes too far apart", y.coverage(4), 0);
        y.setLimit(0, 7);
        due.is("33 near enough, but the normals differ", y.coverage(4), 0);

        // A sleeve whose last side is 2 shorter: the flap lies 2 below the base, with the same normal.
        DieLineChecker z = withBase(40, 60, 30, 50);
        z.addPanel(0, 1, 0, 50, 20, 1);
        z.addPanel(1, 1, 0, 50, 30, 1);
        z.addPanel(2, 1, 0, 50, 18, 1);
        z.addPanel(3, 1, 10, 20, 8, 1);
        z.setFlap(4, 0);
        due.is("33 distance 2, tolerance 1", z.coverage(4), 0);
        z.setLimit(0, 2);
        due.is("33 distance 2, tolerance 2", z.coverage(4), 100);
    }

    private static void volumes() {
        DieLineChecker x = new DieLineChecker();
        due.is("34 nothing", x.volume(), STATE);
        x.setBase(50, 60, 20, 10);
        due.is("34 open", x.volume(), STATE);
        for (int side = 0; side < 4; side++) {
            x.addPanel(0, side, 0, side % 2 == 0 ? 20 : 10, 5, 1);
        }
        due.is("34 a tray is open", x.volume(), STATE);
        x.addPanel(3, 2, 0, 20, 10, 1);
        due.is("34 a box", x.volume(), 1000);
        x.setLimit(0, 0);
        due.is("34 exactly", x.volume(), 1000);
        for (int side = 1; side <= 5; side++) {
            x.setAngle(side, -1);
        }
        due.is("34 folded the other way", x.volume(), 1000);
        x.setWeight(0, 0);
        x.setSize(5, 2, 9);
        due.is("34 a slit, whatever the weights", x.volume(), STATE);
        x.setLimit(0, 1);
        // All but the lid and one side count as before: the lid lacks 1 * 20 at the height 5.
        due.is("34 within the tolerance", x.volume(), (3000 - 20 * 5) / 3);
        // As a flap the lid still closes the other sides, but its own area of 180 at the height 5 is left out.
        x.setFlap(5, 0);
        due.is("34 flaps do not count", x.volume(), (2900 - 180 * 5) / 3);
        x.setAngle(5, 0);
        due.is("34 not closed by a flap", x.volume(), STATE);
    }

    private static void tolerances() {
        DieLineChecker x = new DieLineChecker();
        due.is("35 nothing", x.leastTolerance(), 0);
        x.setBase(50, 60, 20, 10);
        due.is("35 only a base", x.leastTolerance(), NONE);
        for (int side = 0; side < 4; side++) {
            x.addPanel(0, side, 0, side % 2 == 0 ? 20 : 10, 5, 1);
        }
        x.addPanel(3, 2, 0, 20, 10, 1);
        due.is("35 a box", x.leastTolerance(), 0);
        x.setSize(5, 2, 7);
        due.is("35 the lid is 3 short", x.leastTolerance(), 3);
        x.setWeight(0, 0);
        due.is("35 whatever the weights", x.leastTolerance(), 3);
        x.setLimit(0, 20);
        due.is("35 whatever the tolerance", x.leastTolerance(), 3);
        x.addPanel(5, 2, 0, 20, 4, 1);
        x.setFlap(6, 1);
        // The flap goes down at y 63, in front of panel 1 at y 60.
        due.is("35 the flap is near enough", x.leastTolerance(), 3);
        x.setLimit(3, 100);
        x.addPanel(0, 1, 0, 10, 1, 1);
        due.is("35 no room there", x.count(0), 7);
        x.setFlap(6, 2);
        due.is("35 the wrong target", x.leastTolerance(), NONE);
        x.setLimit(3, 0);
        due.is("35 no coverage needed", x.leastTolerance(), 3);
    }

    /** A chain that goes down, back and up again through the base. */
    private static DieLineChecker spiral() {
        DieLineChecker x = withBase(50, 50, 20, 20);
        x.addPanel(0, 1, 0, 20, 5, 1);
        x.addPanel(1, 1, 0, 20, 10, 1);
        x.addPanel(2, 1, 0, 20, 12, 1);
        return x;
    }

    private static void crossingPanels() {
        DieLineChecker x = new DieLineChecker();
        due.is("36 nothing", x.crossings(0), 0);
        due.is("36 the base that is not there", x.crossings(1), BAD);
        x = spiral();
        due.is("36 negative", x.crossings(-1), BAD);
        due.is("36 the base", x.crossings(15), BAD);
        due.is("36 no panel", x.crossings(16), BAD);
        due.is("36 no panel far above", x.crossings(1 << 30), BAD);
        due.is("36 no fold", x.crossings(0), 0);
        due.is("36 two folds", x.crossings(6), 0);
        due.is("36 all folds", x.crossings(14), 1);
        x.setWeight(0, 0);
        due.finding("40 crossing", x, 0, 1, 0, NONE, 3, 20);
        due.is("37 no order", x.foldStep(0), NONE);
        x.addPanel(3, 1, 5, 10, 4, 0);
        due.is("36 panel 4 is above the base", x.crossings(30), 1);
        x.setSize(3, 2, 4);
        // Now panel 3 ends below the base, and panel 4 goes from z -1 to 3.
        due.is("36 only 1 inside", x.crossings(30), 0);
        x.setLimit(0, 0);
        due.is("36 without a tolerance", x.crossings(30), 1);
        due.finding("40 crossing", x, 0, 1, 0, NONE, 4, 10);
    }

    private static void crossingPairs() {
        // Panel 2 goes back below the base, from x 90 to 130, through panel 3, which hangs at x 110.
        DieLineChecker x = withBase(90, 90, 20, 20);
        x.addPanel(0, 3, 0, 20, 20, 1);
        x.addPanel(1, 3, 0, 20, 40, 1);
        x.addPanel(0, 1, 0, 20, 30, 1);
        due.is("36 neighbours in number", x.crossings(14), 1);
        x.setSize(2, 1, 1);
        due.is("36 a common length of 1", x.crossings(14), 1);
        x.setSize(2, 0, 19);
        due.is("36 and at the end", x.crossings(14), 1);
        x.setSize(3, 1, 19);
        due.is("36 they touch only", x.crossings(14), 0);
        x.setSize(3, 1, 20);
        x.setSize(2, 0, 0);
        x.setSize(2, 1, 20);
        x.setSize(2, 2, 60);
        x.addPanel(0, 2, 0, 20, 5, -1);
        due.is("36 an upright panel more", x.crossings(30), 1);
        x.addPanel(3, 1, 0, 20, 5, 0);
        due.is("36 as deep as that", x.crossings(62), 1);
        x.setSize(3, 2, 15);
        x.setSize(5, 2, 15);
        due.is("36 through the lower half instead", x.crossings(62), 1);
        x.addPanel(5, 1, 0, 20, 30, -1);
        due.is("37 no order", x.foldStep(0), NONE);
        x.setSize(2, 2, 18);
        due.is("36 free again", x.crossings(126), 0);
        due.is("37 an order again", x.foldStep(0), 1);
    }

    private static void crossingLimits() {
        DieLineChecker x = spiral();
        x.setLimit(0, 4);
        due.is("36 z -5 to 7 reaches 5 and 7 beyond", x.crossings(14), 1);
        x.setLimit(0, 5);
        due.is("36 5 is not more than 5", x.crossings(14), 0);
        x.setLimit(0, 6);
        due.is("36 nor more than 6", x.crossings(14), 0);
        x.setLimit(0, 1);
        x.setSize(3, 2, 6);
        due.is("36 1 beyond", x.crossings(14), 0);
        x.setSize(3, 2, 7);
        due.is("36 2 beyond", x.crossings(14), 1);
        x.setSize(2, 2, 18);
        due.is("36 2 inside the base", x.crossings(14), 1);
        x.setSize(2, 2, 19);
        due.is("36 1 inside the base", x.crossings(14), 0);
        x.setSize(2, 2, 20);
        due.is("36 at its border", x.crossings(14), 0);
    }

    private static void orderIs(DieLineChecker x, int... order) {
        for (int k = 0; k < order.length; k++) {
            due.is("37 foldStep(" + k + ")", x.foldStep(k), order[k]);
        }
        due.is("37 no more", x.foldStep(order.length), NONE);
        due.is("37 far behind", x.foldStep(Integer.MAX_VALUE), NONE);
    }

    private static void orders() {
        DieLineChecker x = new DieLineChecker();
        due.is("37 nothing", x.foldStep(0), NONE);
        due.is("37 below", x.foldStep(-1), BAD);
        x.setBase(90, 90, 20, 20);
        x.addPanel(0, 1, 0, 20, 30, 1);
        x.addPanel(0, 3, 0, 20, 20, 1);
        x.addPanel(2, 3, 0, 20, 5, 1);
        x.addPanel(3, 3, 0, 20, 30, -1);
        // With 1, 2 and 3, panel 4 would go on through panel 1.
        due.is("36 too early", x.crossings(14), 1);
        orderIs(x, 1, 2, 4, 3);
        x.setAngle(2, 0);
        orderIs(x, 1, 3, 4);
        x.setAngle(1, 0);
        x.setAngle(3, 0);
        x.setAngle(4, 0);
        orderIs(x);
        x.setBase(90, 90, 20, 20);
        x.addPanel(0, 0, 0, 20, 10, 1);
        x.addPanel(1, 0, 0, 20, 30, 1);
        x.addPanel(0, 2, 0, 20, 5, 1);
        x.addPanel(3, 2, 0, 20, 20, 1);
        // After 1 and 2 neither 3 nor 4 can be made, so the order must go back.
        due.is("36 dead end with 3", x.crossings(2 + 4 + 8), 1);
        due.is("36 dead end with 4", x.crossings(2 + 4 + 16), 1);
        orderIs(x, 1, 3, 4, 2);
        x.setLimit(0, 0);
        x.setBase(90, 90, 20, 20);
        x.addPanel(0, 0, 0, 20, 40, 1);
        x.addPanel(0, 2, 0, 20, 5, 1);
        x.addPanel(2, 2, 0, 20, 10, 1);
        x.addPanel(3, 2, 0, 20, 5, 1);
        x.addPanel(4, 2, 0, 20, 40, 1);
        // When panel 1 hangs down, no two of the others can be folded: the rest of their row would go through it.
        due.is("36 with 2 and 3", x.crossings(2 + 4 + 8) > 0 ? 1 : 0, 1);
        due.is("36 with 3 and 5", x.crossings(2 + 8 + 32) > 0 ? 1 : 0, 1);
        due.is("36 with 4 and 5", x.crossings(2 + 16 + 32) > 0 ? 1 : 0, 1);
        orderIs(x, 2, 3, 4, 1, 5);
    }
}
