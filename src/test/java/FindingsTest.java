/** Promises 40 to 45: the findings, their costs, and the best depth and angle. */
public final class FindingsTest {
    private static final int BAD = -1, NONE = -9;
    private static final Due due = new Due();

    public static void main(String[] args) {
        wrongArguments();
        openSides();
        doubled();
        glue();
        bleed();
        bleedAtFolds();
        intrusion();
        intrusionBeyondTheSheet();
        intrusionAtFolds();
        ink();
        breaks();
        order();
        costs();
        bestDepths();
        bestAngles();
        due.end();
    }

    private static DieLineChecker withBase(int x, int y, int width, int height) {
        DieLineChecker made = new DieLineChecker();
        due.is("setBase", made.setBase(x, y, width, height), 0);
        return made;
    }

    /** Leaves only one kind of findings. */
    private static void only(DieLineChecker x, int kind) {
        for (int i = 0; i < 8; i++) {
            x.setWeight(i, i == kind ? 1 : 0);
        }
    }

    private static void countIs(String what, DieLineChecker x, int count) {
        due.is("40 " + what, x.findingCount(), count);
        due.is("41 behind the last: " + what, x.finding(count, 0), BAD);
    }

    private static void wrongArguments() {
        DieLineChecker x = new DieLineChecker();
        countIs("nothing", x, 0);
        due.is("42 nothing", x.totalCost(), 0);
        due.is("43 nothing", x.panelCost(0), BAD);
        x.setBase(10, 10, 5, 7);
        due.is("41 finding below", x.finding(-1, 0), BAD);
        due.is("41 what below", x.finding(0, -1), BAD);
        due.is("41 what above", x.finding(0, 6), BAD);
        due.is("43 panel below", x.panelCost(-1), BAD);
        due.is("43 panel above", x.panelCost(1), BAD);
    }

    private static void openSides() {
        DieLineChecker x = withBase(10, 10, 5, 7);
        countIs("open base", x, 4);
        due.finding("open", x, 0, 0, 0, 1, NONE, 7, 7);
        due.finding("open", x, 1, 0, 0, 3, NONE, 7, 7);
        due.finding("open", x, 2, 0, 0, 0, NONE, 5, 5);
        due.finding("open", x, 3, 0, 0, 2, NONE, 5, 5);
        due.is("42 open", x.totalCost(), 24);
        due.is("43 open", x.panelCost(0), 24);
        x.setWeight(0, 9);
        due.finding("open", x, 0, 0, 0, 1, NONE, 7, 63);
        due.is("42 weight 9", x.totalCost(), 216);
        x.setWeight(0, 0);
        countIs("weight 0", x, 0);
        x.setWeight(0, 1);
        x.addPanel(0, 1, 0, 7, 4, 1);
        countIs("base 3 and panel 3", x, 6);
        x.setFlap(1, 0);
        x.setWeight(3, 0);
        countIs("no open sides of flaps", x, 3);
    }

    private static void doubled() {
        DieLineChecker x = withBase(50, 50, 20, 20);
        x.addPanel(0, 1, 2, 15, 10, 2);
        only(x, 2);
        countIs("doubled", x, 1);
        due.finding("doubled", x, 0, 2, 0, NONE, 1, 150, 150);
        due.is("43 panel", x.panelCost(0), 150);
        due.is("43 other panel", x.panelCost(1), 150);
        x.setFlap(1, 0);
        countIs("a flap on its target", x, 0);
        x.addPanel(0, 3, 0, 20, 15, 2);
        // Panel 2 lies on the base, x 50 to 65, and on panel 1, x 60 to 70, with y 52 to 67 in common.
        countIs("with a third panel", x, 2);
        due.finding("doubled", x, 0, 2, 0, NONE, 2, 300);
        due.finding("doubled", x, 1, 2, 1, NONE, 2, 75);
        x.setFlap(1, 2);
        countIs("another target", x, 2);
        due.finding("doubled", x, 0, 2, 0, NONE, 2, 300);
        due.finding("doubled", x, 1, 2, 0, NONE, 1, 150);
        x.setAngle(2, 0);
        countIs("beside each other", x, 1);
    }

    private static void glue() {
        DieLineChecker x = withBase(50, 60, 20, 10);
        x.addPanel(0, 1, 0, 10, 1, 2);
        x.addPanel(1, 1, 0, 10, 9, 2);
        x.setFlap(2, 0);
        only(x, 3);
        countIs("glue", x, 1);
        due.finding("glue", x, 0, 3, 2, NONE, 0, 69, 69);
        x.setLimit(3, 12);
        due.finding("glue", x, 0, 3, 2, NONE, 0, 1, 1);
        x.setLimit(3, 11);
        countIs("covered enough", x, 0);
        x.setFlap(2, 1);
        due.finding("glue", x, 0, 3, 2, NONE, 1, 11, 11);
    }

    private static void bleed() {
        DieLineChecker x = withBase(50, 50, 20, 20);
        x.defineImage(0, 30, 30);
        x.place(0, 0, 0, -1, -2);
        only(x, 4);
        // The reaches are 2, 9, 8 and 1.
        countIs("bleed", x, 2);
        due.finding("bleed", x, 0, 4, 0, 3, NONE, 2, 2);
        due.finding("bleed", x, 1, 4, 0, 0, NONE, 1, 1);
        x.setLimit(1, 9);
        countIs("bleed 9", x, 3);
        due.finding("bleed", x, 0, 4, 0, 3, NONE, 8);
        due.finding("bleed", x, 1, 4, 0, 0, NONE, 7);
        due.finding("bleed", x, 2, 4, 0, 2, NONE, 1);
        x.setLimit(1, 0);
        countIs("bleed 0", x, 0);
        x.setLimit(1, 3);
        x.place(0, 0, 0, 1, 0);
        countIs("no reach is no finding, reach 0 is", x, 1);
        due.finding("bleed", x, 0, 4, 0, 0, NONE, 3);
    }

    private static void bleedAtFolds() {
        DieLineChecker x = withBase(50, 50, 20, 20);
        x.defineImage(0, 22, 22);
        x.place(0, 0, 0, -1, -1);
        only(x, 4);
        countIs("all sides", x, 4);
        x.addPanel(0, 1, 0, 19, 5, 1);
        countIs("a fold on a part of a side", x, 4);
        x.setSize(1, 1, 20);
        countIs("a fold on a whole side", x, 3);
        x.setAngle(1, 0);
        countIs("whatever its angle", x, 3);
        x.addPanel(0, 2, 0, 8, 5, 1);
        x.addPanel(0, 2, 8, 11, 5, 1);
        countIs("two folds on a part of a side", x, 3);
        x.setSize(3, 1, 12);
        countIs("two folds on a whole side", x, 2);
        x.clearImage(0);
        x.place(1, 0, 0, -1, -1);
        // Panel 1 is 5 by 20: reaches 1 (south), 16 (east), 1 (north), 1 (near side).
        countIs("its own fold", x, 2);
        due.finding("own fold", x, 0, 4, 1, 0, NONE, 2);
        due.finding("own fold", x, 1, 4, 1, 2, NONE, 2);
        x.setFlap(1, 0);
        countIs("not of flaps", x, 0);
    }

    /** A base with a panel that comes back beside its east side. */
    private static DieLineChecker hook() {
        DieLineChecker x = withBase(50, 50, 20, 20);
        x.addPanel(0, 2, 0, 20, 5, 1);
        x.addPanel(1, 1, 0, 5, 10, 1);
        x.addPanel(2, 0, 1, 9, 15, 1);
        due.is("the hook's x", x.flat(3, 0), 71);
        due.is("the hook's y", x.flat(3, 1), 55);
        x.defineImage(0, 40, 40);
        only(x, 5);
        return x;
    }

    private static void intrusion() {
        DieLineChecker x = hook();
        x.place(0, 0, 0, 0, 0);
        // The strip at the east side is x 70 to 73, y 50 to 70; at the north there is only a panel that hangs there.
        countIs("intrusion", x, 1);
        due.finding("intrusion", x, 0, 5, 0, 1, 3, 2, 2);
        due.is("43 other panel", x.panelCost(3), 2);
        x.setLimit(1, 1);
        countIs("only touched", x, 0);
        x.setSize(3, 0, 0);
        countIs("a strip of 1", x, 1);
        due.finding("a strip of 1", x, 0, 5, 0, 1, 3, 1, 1);
        x.setSize(3, 0, 1);
        x.setLimit(1, 20);
        // Now the strip at the north is 20 high, but only panel 1 is above the base.
        countIs("the whole panel", x, 1);
        due.finding("intrusion", x, 0, 5, 0, 1, 3, 9, 9);
        x.place(0, 0, 0, -16, 0);
        due.finding("intrusion with a reach of 4", x, 0, 5, 0, 1, 3, 3, 3);
        x.place(0, 0, 0, -16, -35);
        countIs("ink ends at y 5, where panel 3 begins", x, 0);
        x.place(0, 0, 0, -16, -34);
        countIs("ink ends at y 6", x, 1);
        x.place(0, 0, 0, -20, 0);
        countIs("reach 0", x, 0);
        x.setLimit(1, 0);
        x.place(0, 0, 0, 0, 0);
        countIs("bleed 0", x, 0);
        x.setLimit(1, 3);
        x.setFlap(3, 0);
        x.clearImage(0);
        x.place(3, 0, 0, -10, 1);
        // Panel 3 has reaches 10 (west), 21 (east) and 26 (north): its near side is the north.
        countIs("flaps too", x, 1);
        due.finding("flaps too", x, 0, 5, 3, 3, 0, 2, 2);
    }

    private static void intrusionBeyondTheSheet() {
        DieLineChecker x = withBase(2, 1, 20, 20);
        x.defineImage(0, 200, 200);
        x.place(0, 0, 0, -50, -50);
        only(x, 5);
        countIs("beyond the sheet", x, 2);
        due.finding("beyond the sheet", x, 0, 5, 0, 0, NONE, 2, 2);
        due.finding("beyond the sheet", x, 1, 5, 0, 3, NONE, 1, 1);
        x.setSheet(24, 20 + 1);
        countIs("on all sides", x, 4);
        due.finding("on all sides", x, 0, 5, 0, 2, NONE, 3);
        due.finding("on all sides", x, 1, 5, 0, 0, NONE, 2);
        due.finding("on all sides", x, 2, 5, 0, 1, NONE, 1);
        due.finding("on all sides", x, 3, 5, 0, 3, NONE, 1);
        x.place(0, 0, 0, -1, -1);
        // With a reach of 1 the strips at the south and the west stay on the sheet.
        countIs("a reach of 1", x, 2);
        due.finding("a reach of 1", x, 0, 5, 0, 2, NONE, 3);
        due.finding("a reach of 1", x, 1, 5, 0, 1, NONE, 1);
    }

    private static void intrusionAtFolds() {
        DieLineChecker x = withBase(50, 50, 20, 20);
        x.addPanel(0, 1, 0, 20, 2, 1);
        x.addPanel(1, 1, 0, 20, 10, 1);
        x.defineImage(0, 60, 60);
        x.place(0, 0, 0, -20, -20);
        only(x, 5);
        // Panel 1 hangs on the side, but behind it the strip meets panel 2.
        countIs("behind a panel that hangs there", x, 1);
        due.finding("behind a panel", x, 0, 5, 0, 1, 2, 1, 1);
        x.clearImage(0);
        x.place(2, 0, 0, -20, -20);
        countIs("behind the parent", x, 1);
        due.finding("behind the parent", x, 0, 5, 2, 3, 0, 1, 1);
    }

    private static void ink() {
        for (int side = 0; side < 4; side++) {
            DieLineChecker x = withBase(50, 50, 20, 20);
            x.addPanel(0, side, 0, 20, 10, 1);
            x.setFlap(1, 0);
            x.defineImage(0, 8, 8);
            only(x, 6);
            countIs("a flap without ink", x, 0);
            boolean acrossX = side % 2 == 0;
            // The image ends 7 units from the near side.
            int at = side == 1 || side == 2 ? -1 : 3;
            x.place(1, 0, 0, acrossX ? 4 : at, acrossX ? at : 4);
            countIs("ink", x, 1);
            due.finding("ink", x, 0, 6, 1, NONE, NONE, 5, 5);
            x.setLimit(2, 6);
            due.finding("ink", x, 0, 6, 1, NONE, NONE, 1, 1);
            x.setLimit(2, 7);
            countIs("within the glue bleed", x, 0);
            x.setLimit(2, 0);
            x.defineImage(0, 30, 30);
            x.place(1, 0, 0, -5, -5);
            due.finding("ink on the whole flap", x, 0, 6, 1, NONE, NONE, 10, 10);
            x.place(1, 0, 0, 200, 200);
            countIs("ink beside the flap", x, 0);
            x.place(1, 0, 0, -5, -5);
            x.setFlap(1, NONE);
            countIs("not a flap", x, 0);
        }
    }

    private static void breaks() {
        DieLineChecker x = withBase(50, 60, 20, 10);
        x.addPanel(0, 1, 0, 10, 15, 1);
        x.defineImage(0, 60, 40);
        x.place(0, 0, 0, -10, -10);
        only(x, 7);
        x.place(1, 0, 0, -30, -10);
        countIs("it goes on", x, 0);
        x.place(1, 0, 0, -29, -10);
        countIs("1 is not above the tolerance", x, 0);
        x.place(1, 0, 0, -28, -10);
        countIs("2 is", x, 1);
        due.finding("break", x, 0, 7, 0, 1, 1, 2, 2);
        x.setLimit(0, 2);
        countIs("tolerance 2", x, 0);
        x.place(1, 0, 4, -30, -10);
        due.finding("the other way", x, 0, 7, 0, 1, 1, 100, 100);
        x.setWeight(7, 3);
        due.finding("the other way", x, 0, 7, 0, 1, 1, 100, 300);
    }

    private static void order() {
        DieLineChecker x = withBase(50, 50, 20, 20);
        x.addPanel(0, 1, 0, 20, 20, 2);
        x.defineImage(0, 40, 40);
        x.place(0, 0, 0, -1, -20);
        x.setWeight(4, 9);
        // Panel 1 covers the base: all sides meet. Doubled 400; the base's image has the reaches 20, 19, 0, 1.
        countIs("all kinds", x, 3);
        due.finding("all kinds", x, 0, 2, 0, NONE, 1, 400, 400);
        due.finding("all kinds", x, 1, 4, 0, 2, NONE, 3, 27);
        due.finding("all kinds", x, 2, 4, 0, 3, NONE, 2, 18);
        x.setWeight(2, 0);
        x.setAngle(1, 1);
        x.setWeight(4, 0);
        x.setWeight(5, 9);
        x.setSheet(200, 70);
        x.setWeight(0, 1);
        x.setLimit(1, 2);
        // Open sides with 20 each: base 0, 2, 3 and panel 1: 0, 1, 2.
        int[][] open = {{0, 0}, {0, 2}, {0, 3}, {1, 0}, {1, 1}, {1, 2}};
        countIs("equal costs", x, 6);
        for (int i = 0; i < 6; i++) {
            due.finding("equal costs", x, i, 0, open[i][0], open[i][1], NONE, 20, 20);
        }
        x.place(0, 0, 0, -1, -18);
        // North: reach 2 beyond the sheet at y 70, cost 18, behind all those with 20.
        countIs("a lower cost", x, 7);
        due.finding("a lower cost", x, 6, 5, 0, 2, NONE, 2, 18);
        x.setWeight(0, 2);
        x.setWeight(5, 1);
        due.finding("costs, not amounts", x, 0, 0, 0, 0, NONE, 20, 40);
    }

    private static void costs() {
        DieLineChecker x = withBase(50, 50, 20, 20);
        x.addPanel(0, 1, 0, 20, 10, 2);
        x.addPanel(0, 3, 0, 20, 10, 2);
        x.setLimit(0, 0);
        only(x, 2);
        x.setWeight(2, 7);
        due.is("42 two doubled pairs", x.totalCost(), 2 * 200 * 7);
        due.is("43 base", x.panelCost(0), 2 * 200 * 7);
        due.is("43 panel 1", x.panelCost(1), 200 * 7);
        due.is("43 panel 2", x.panelCost(2), 200 * 7);
        DieLineChecker y = new DieLineChecker();
        y.setSheet(300, 300);
        y.setBase(0, 0, 150, 300);
        y.addPanel(0, 1, 0, 300, 150, 2);
        y.setWeight(2, 9);
        due.finding("greatest area", y, 0, 2, 0, NONE, 1, 45000, 405000);
        due.is("42 greatest area", y.totalCost(), 405000);
    }

    private static void bestDepths() {
        DieLineChecker x = withBase(50, 60, 20, 10);
        due.is("44 base", x.bestDepth(0), BAD);
        due.is("44 no panel", x.bestDepth(1), BAD);
        due.is("44 panel below", x.bestDepth(-1), BAD);
        for (int side = 0; side < 4; side++) {
            x.addPanel(0, side, 0, side % 2 == 0 ? 20 : 10, 5, 1);
        }
        x.addPanel(3, 2, 0, 20, 10, 1);
        due.is("44 closed", x.bestDepth(5), 10);
        x.setSize(5, 2, 17);
        // With the tolerance 1 the box is closed from 9 to 11.
        due.is("44 nearest to 17", x.bestDepth(5), 11);
        due.is("44 nothing changes", x.flat(5, 3), 17);
        x.setSize(5, 2, 2);
        due.is("44 nearest to 2", x.bestDepth(5), 9);
        x.setSize(5, 2, 10);
        due.is("44 the present one", x.bestDepth(5), 10);
        int acts = x.count(1);
        for (int kind = 0; kind < 8; kind++) {
            x.setWeight(kind, 0);
        }
        x.setSize(5, 2, 100);
        due.is("44 all are equal", x.bestDepth(5), 100);
        due.is("44 acts", acts, 6 + 3);

        DieLineChecker z = withBase(50, 50, 20, 20);
        z.addPanel(0, 1, 0, 20, 5, 1);
        z.addPanel(1, 1, 0, 20, 10, 1);
        z.addPanel(2, 1, 0, 20, 12, 1);
        only(z, 1);
        // Panel 3 crosses the base if panel 2 is 2 to 18 deep; 1 and 19 are equally near.
        due.is("44 the smaller one", z.bestDepth(2), 1);
        z.setSize(2, 2, 11);
        due.is("44 the nearer one", z.bestDepth(2), 19);

        DieLineChecker y = new DieLineChecker();
        y.setSheet(300, 300);
        y.setBase(0, 0, 20, 20);
        y.setWeight(0, 0);
        y.addPanel(0, 1, 0, 20, 120, 1);
        due.is("44 the nearest of 1 to 100", y.bestDepth(1), 100);
        y.addPanel(1, 2, 0, 101, 5, 1);
        due.is("44 none is valid", y.bestDepth(1), NONE);
        y.setSize(2, 1, 100);
        due.is("44 only 100 is valid", y.bestDepth(1), 100);
    }

    private static void bestAngles() {
        DieLineChecker x = withBase(50, 60, 20, 10);
        due.is("45 base", x.bestAngle(0), BAD);
        due.is("45 no panel", x.bestAngle(1), BAD);
        due.is("45 panel below", x.bestAngle(-1), BAD);
        for (int side = 0; side < 4; side++) {
            x.addPanel(0, side, 0, side % 2 == 0 ? 20 : 10, 5, 1);
        }
        x.addPanel(3, 2, 0, 20, 10, 1);
        for (int angle = -1; angle <= 2; angle++) {
            x.setAngle(2, angle);
            due.is("45 from " + angle, x.bestAngle(2), 1);
            due.is("45 nothing changes", x.setAngle(2, 1), angle);
        }
        for (int kind = 0; kind < 8; kind++) {
            x.setWeight(kind, 0);
        }
        for (int angle = -1; angle <= 2; angle++) {
            x.setAngle(2, angle);
            due.is("45 the present one, all are equal", x.bestAngle(2), angle);
        }
        DieLineChecker y = withBase(50, 60, 20, 10);
        y.addPanel(0, 1, 0, 10, 5, 2);
        y.setWeight(0, 0);
        due.is("45 the smallest of several", y.bestAngle(1), -1);
        y.setAngle(1, 0);
        due.is("45 the present one of several", y.bestAngle(1), 0);
    }
}
