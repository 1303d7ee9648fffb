/** Promises 16, 17, 38 and 39: images on panels, and how they go on over seams. */
public final class ImageTest {
    private static final int BAD = -1, STATE = -2, NONE = -9;
    private static final Due due = new Due();

    public static void main(String[] args) {
        coordinates();
        reaches();
        reachesNone();
        mismatches();
        turnedMismatches();
        continued();
        continuedAroundACorner();
        continuedEveryWay();
        notContinued();
        spread();
        spreadBack();
        spreadFromOthers();
        due.end();
    }

    private static DieLineChecker withBase(int x, int y, int width, int height) {
        DieLineChecker made = new DieLineChecker();
        due.is("setBase", made.setBase(x, y, width, height), 0);
        return made;
    }

    private static void coordinates() {
        DieLineChecker x = withBase(50, 60, 20, 10);
        due.is("38 no image", x.imageAt(0, 0, 0, 0), NONE);
        x.defineImage(1, 7, 4);
        // Where the image's (0, 0) and (7, 4) come to lie when it is placed at (2, 3).
        int[][] origin = {{2, 3}, {6, 3}, {9, 7}, {2, 10}, {9, 3}, {6, 10}, {2, 7}, {2, 3}};
        int[][] far = {{9, 7}, {2, 10}, {2, 3}, {6, 3}, {2, 7}, {2, 3}, {9, 3}, {6, 10}};
        for (int way = 0; way < 8; way++) {
            x.place(0, 1, way, 2, 3);
            due.is("38 u of (0, 0), way " + way, x.imageAt(0, origin[way][0], origin[way][1], 0), 0);
            due.is("38 v of (0, 0), way " + way, x.imageAt(0, origin[way][0], origin[way][1], 1), 0);
            due.is("38 u of (7, 4), way " + way, x.imageAt(0, far[way][0], far[way][1], 0), 7);
            due.is("38 v of (7, 4), way " + way, x.imageAt(0, far[way][0], far[way][1], 1), 4);
        }
        x.place(0, 1, 0, 2, 3);
        due.is("38 outside", x.imageAt(0, -300, 300, 0), -302);
        due.is("38 outside, v", x.imageAt(0, -300, 300, 1), 297);
        due.is("38 no panel", x.imageAt(1, 0, 0, 0), BAD);
        due.is("38 panel below", x.imageAt(-1, 0, 0, 0), BAD);
        due.is("38 x below", x.imageAt(0, -301, 0, 0), BAD);
        due.is("38 x above", x.imageAt(0, 301, 0, 0), BAD);
        due.is("38 y below", x.imageAt(0, 0, -301, 0), BAD);
        due.is("38 y above", x.imageAt(0, 0, 301, 0), BAD);
        due.is("38 axis below", x.imageAt(0, 0, 0, -1), BAD);
        due.is("38 axis above", x.imageAt(0, 0, 0, 2), BAD);
        x.place(0, 1, 0, 300, 300);
        due.is("38 placed, but not shown", x.imageAt(0, 0, 0, 0), -300);
        x.clearImage(0);
        due.is("38 BAD before NONE", x.imageAt(0, 0, 0, 2), BAD);
    }

    private static void reaches() {
        DieLineChecker x = withBase(50, 60, 20, 10);
        due.is("39 no image", x.reach(0, 0), NONE);
        due.is("39 no panel", x.reach(1, 0), BAD);
        due.is("39 panel below", x.reach(-1, 0), BAD);
        due.is("39 side below", x.reach(0, -1), BAD);
        due.is("39 side above", x.reach(0, 4), BAD);
        x.defineImage(0, 25, 18);
        x.place(0, 0, 0, -2, -5);
        int[] upright = {5, 3, 3, 2};
        for (int side = 0; side < 4; side++) {
            due.is("39 reach(0, " + side + ")", x.reach(0, side), upright[side]);
        }
        x.place(0, 0, 5, 0, -5);
        // Turned, it is 18 wide and 25 high: it ends before the east side.
        int[] turned = {5, NONE, 10, 0};
        for (int side = 0; side < 4; side++) {
            due.is("39 turned reach(0, " + side + ")", x.reach(0, side), turned[side]);
        }
        x.place(0, 0, 0, -5, 0);
        due.is("39 ends at the side exactly", x.reach(0, 1), 0);
        x.place(0, 0, 0, -6, 0);
        due.is("39 ends before it", x.reach(0, 1), NONE);
        x.place(0, 0, 0, 1, 1);
        due.is("39 begins behind the west side", x.reach(0, 3), NONE);
        due.is("39 begins above the south side", x.reach(0, 0), NONE);
    }

    private static void reachesNone() {
        DieLineChecker x = withBase(50, 60, 20, 10);
        x.defineImage(0, 25, 18);
        int[][] places = {{20, 0}, {-25, 0}, {0, 10}, {0, -18}};
        int[][] shown = {{19, 0}, {-24, 0}, {0, 9}, {0, -17}};
        for (int i = 0; i < 4; i++) {
            x.place(0, 0, 0, places[i][0], places[i][1]);
            for (int side = 0; side < 4; side++) {
                due.is("39 only touches the panel", x.reach(0, side), NONE);
            }
            x.place(0, 0, 0, shown[i][0], shown[i][1]);
            int reaches = 0;
            for (int side = 0; side < 4; side++) {
                reaches += x.reach(0, side) != NONE ? 1 : 0;
            }
            due.is("39 shown " + i, reaches > 0 ? 1 : 0, 1);
        }
    }

    private static void mismatches() {
        DieLineChecker x = withBase(50, 60, 20, 10);
        x.addPanel(0, 1, 0, 10, 15, 1);
        x.defineImage(0, 60, 40);
        x.defineImage(1, 60, 40);
        due.is("32 no images", x.seam(0, 7), NONE);
        x.place(0, 0, 0, -10, -10);
        due.is("32 one image", x.seam(0, 7), NONE);
        x.place(1, 0, 0, -30, -10);
        due.is("32 it goes on", x.seam(0, 7), 0);
        x.place(1, 0, 0, -28, -10);
        due.is("32 u differs by 2", x.seam(0, 7), 2);
        x.place(1, 0, 0, -28, -15);
        due.is("32 v differs by 5", x.seam(0, 7), 5);
        x.place(1, 1, 0, -30, -10);
        due.is("32 another image", x.seam(0, 7), NONE);
        x.place(1, 0, 0, 0, -10);
        due.is("32 reach 0 on panel 1", x.seam(0, 7), 30);
        x.place(1, 0, 0, 1, -10);
        due.is("32 no reach on panel 1", x.seam(0, 7), NONE);
        x.place(1, 0, 0, -30, -10);
        x.place(0, 0, 0, -41, -10);
        due.is("32 no reach on panel 0", x.seam(0, 7), NONE);
        x.place(0, 0, 0, -40, -10);
        due.is("32 reach 0 on panel 0", x.seam(0, 7), 30);
        x.place(1, 0, 0, -200, -10);
        due.is("32 not shown", x.seam(0, 7), NONE);
    }

    private static void turnedMismatches() {
        DieLineChecker x = withBase(50, 60, 20, 10);
        x.addPanel(0, 1, 0, 10, 15, 1);
        x.defineImage(0, 60, 40);
        x.place(0, 0, 0, -10, -10);
        // Mirrored, so that u is the same at the fold but falls into panel 1: 60 - (0 - px) = 30.
        x.place(1, 0, 4, -30, -10);
        due.is("32 same coordinates, other way", x.seam(0, 7), 100);
        x.place(1, 0, 2, -30, -20);
        // r = 2: u is 30 at the fold, v is 40 - (y + 20): 20 and 10, where panel 0 has 10 and 20.
        due.is("32 upside down", x.seam(0, 7), 100);
        x.defineImage(0, 200, 200);
        x.place(0, 0, 0, -180, -10);
        x.place(1, 0, 4, -150, -10);
        // u is 200 on panel 0 and 200 - 150 on panel 1
        due.is("32 greater than 100", x.seam(0, 7), 150);
        x.place(1, 0, 6, -150, -180);
        // Upside down, and u rises: 150 at the fold; v is 200 - (y + 180): 20 and 10.
        due.is("32 v upside down, u as before", x.seam(0, 7), 50);
        x.place(0, 0, 0, -100, -10);
        x.place(1, 0, 6, -120, -160);
        // u is 120 on both; v is 10 to 20 on panel 0, and 40 to 30 on panel 1.
        due.is("32 most at the lower end", x.seam(0, 7), 30);
        x.place(1, 0, 6, -120, -190);
        // Now v is 10 to 0 on panel 1.
        due.is("32 most at the upper end", x.seam(0, 7), 20);
    }

    private static void continued() {
        DieLineChecker x = withBase(50, 60, 20, 10);
        x.addPanel(0, 1, 2, 8, 15, 1);
        x.defineImage(0, 60, 40);
        x.place(0, 0, 0, -10, -10);
        due.is("16 forth", x.continueImage(0, false), 0);
        due.is("16 u", x.imageAt(1, 0, 0, 0), 30);
        due.is("16 v", x.imageAt(1, 0, 0, 1), 12);
        due.is("16 mismatch", x.seam(0, 7), 0);
        due.is("16 acts", x.count(1), 5);
        x.place(1, 0, 3, -3, -5);
        int way = x.continueImage(0, true);
        due.is("16 back", way, 3);
        due.is("16 mismatch back", x.seam(0, 7), 0);
        // Panel 1 has its (0, 0) at (20, 2) of panel 0.
        due.is("16 u back", x.imageAt(0, 20, 2, 0), x.imageAt(1, 0, 0, 0));
        due.is("16 v back", x.imageAt(0, 20, 2, 1), x.imageAt(1, 0, 0, 1));
        due.is("16 in place of the other image", x.clearImage(0), 0);
        x.defineImage(3, 60, 60);
        x.place(0, 3, 7, -20, -20);
        due.is("16 another image", x.continueImage(0, false), 7);
        due.is("16 which one", x.clearImage(1), 3);
    }

    private static int seamOf(DieLineChecker x, int p, int side, int q, int otherSide) {
        for (int k = 0; k < x.seamCount(); k++) {
            if (x.seam(k, 0) == p && x.seam(k, 1) == side && x.seam(k, 2) == q && x.seam(k, 3) == otherSide) {
                return k;
            }
        }
        return NONE;
    }

    private static void continuedAroundACorner() {
        DieLineChecker x = withBase(40, 60, 30, 50);
        x.addPanel(0, 1, 0, 50, 20, 1);
        x.addPanel(0, 2, 0, 30, 20, 1);
        int seam = seamOf(x, 1, 2, 2, 1);
        due.is("16 the corner is a seam", seam, 2);
        x.defineImage(0, 20, 60);
        x.place(1, 0, 0, 0, 0);
        // At z 0 the points are (0, 50) of panel 1 and (30, 0) of panel 2; u goes up in panel 2, v to the left.
        due.is("16 turned by the corner", x.continueImage(seam, false), 1);
        due.is("16 u at z 0", x.imageAt(2, 30, 0, 0), 0);
        due.is("16 v at z 0", x.imageAt(2, 30, 0, 1), 50);
        due.is("16 u at z -20", x.imageAt(2, 30, 20, 0), 20);
        due.is("16 v inside", x.imageAt(2, 29, 0, 1), 51);
        due.is("16 mismatch", x.seam(seam, 7), 0);
        x.clearImage(1);
        due.is("16 and back again", x.continueImage(seam, true), 0);
        due.is("16 u of panel 1", x.imageAt(1, 5, 7, 0), 5);
        due.is("16 v of panel 1", x.imageAt(1, 5, 7, 1), 7);
    }

    /** From every side with every orientation: the image must go on without a mismatch. */
    private static void continuedEveryWay() {
        for (int side = 0; side < 4; side++) {
            for (int way = 0; way < 8; way++) {
                DieLineChecker x = withBase(50, 60, 20, 10);
                x.addPanel(0, side, 1, 6, 9, way % 4 - 1);
                x.defineImage(0, 70, 60);
                x.place(0, 0, way, -21, -22);
                int fold = seamOf(x, 0, side, 1, (side + 2) % 4);
                due.is("16 over side " + side + " way " + way, x.continueImage(fold, false), way);
                due.is("16 mismatch", x.seam(fold, 7), 0);
                x.clearImage(0);
                due.is("16 back over side " + side + " way " + way, x.continueImage(fold, true), way);
                // No call tells the position, so compare the coordinates.
                int u = x.imageAt(0, 0, 0, 0);
                int v = x.imageAt(0, 0, 0, 1);
                x.place(0, 0, way, -21, -22);
                due.is("16 the same u", x.imageAt(0, 0, 0, 0), u);
                due.is("16 the same v", x.imageAt(0, 0, 0, 1), v);
            }
        }
    }

    private static void notContinued() {
        DieLineChecker x = withBase(50, 60, 20, 10);
        x.addPanel(0, 1, 0, 10, 15, 1);
        due.is("16 no seam", x.continueImage(1, false), BAD);
        due.is("16 seam below", x.continueImage(-1, true), BAD);
        due.is("16 no image", x.continueImage(0, false), STATE);
        x.defineImage(0, 60, 40);
        x.place(0, 0, 0, -41, 0);
        due.is("16 no reach", x.continueImage(0, false), STATE);
        due.is("16 no image back", x.continueImage(0, true), STATE);
        x.place(0, 0, 0, -40, 0);
        due.is("16 reach 0", x.continueImage(0, false), 0);
        x.clearImage(1);
        x.defineImage(0, 200, 200);
        due.is("16 acts", x.count(1), 8);
        due.is("16 no image there", x.imageAt(1, 0, 0, 0), NONE);
        tooFar();
    }

    /** The position on a panel far along the side can be out of its range. */
    private static void tooFar() {
        DieLineChecker x = new DieLineChecker();
        x.setSheet(300, 300);
        x.setBase(0, 0, 100, 300);
        x.addPanel(0, 1, 200, 20, 10, 1);
        x.defineImage(0, 200, 200);
        x.place(0, 0, 0, -100, -100);
        due.is("16 py -300", x.continueImage(0, false), 0);
        due.is("16 v", x.imageAt(1, 0, 0, 1), 300);
        x.clearImage(1);
        x.setSize(1, 0, 201);
        int acts = x.count(1);
        due.is("16 py -301", x.continueImage(0, false), STATE);
        due.is("16 nothing changed", x.imageAt(1, 0, 0, 1), NONE);
        due.is("16 no act", x.count(1), acts);
        due.is("17 not possible either", x.spreadImage(0), 0);
        x.setBase(0, 0, 300, 100);
        x.addPanel(0, 2, 201, 20, 10, -1);
        x.place(0, 0, 0, -100, -100);
        due.is("16 px -301", x.continueImage(0, false), STATE);
        x.setSize(1, 0, 200);
        due.is("16 px -300", x.continueImage(0, false), 0);
        due.is("16 u", x.imageAt(1, 0, 0, 0), 300);
    }

    private static void spread() {
        DieLineChecker x = withBase(50, 50, 10, 10);
        x.addPanel(0, 1, 0, 10, 10, 0);
        x.addPanel(1, 1, 0, 10, 10, 0);
        x.addPanel(2, 1, 0, 10, 10, 0);
        due.is("17 no panel", x.spreadImage(4), BAD);
        due.is("17 panel below", x.spreadImage(-1), BAD);
        due.is("17 no image", x.spreadImage(0), STATE);
        x.defineImage(0, 25, 10);
        x.place(0, 0, 0, 0, 0);
        int acts = x.count(1);
        due.is("17 over two panels, and no reach then", x.spreadImage(0), 2);
        due.is("17 one act", x.count(1), acts + 1);
        due.is("17 u on panel 2", x.imageAt(2, 0, 0, 0), 20);
        due.is("17 none on panel 3", x.imageAt(3, 0, 0, 0), NONE);
        due.is("17 again", x.spreadImage(1), 0);
        due.is("17 an act too", x.count(1), acts + 2);
        x.undo();
        x.undo();
        due.is("17 all undone", x.imageAt(1, 0, 0, 0), NONE);
        x.setFlap(1, 0);
        due.is("17 not on a flap", x.spreadImage(0), 0);
        x.undo();
        x.undo();
        x.defineImage(1, 5, 5);
        x.place(2, 1, 0, 0, 0);
        due.is("17 not on another image", x.spreadImage(0), 1);
        due.is("17 which stays", x.clearImage(2), 1);
        x.clearImage(0);
        due.is("17 back", x.spreadImage(1), 2);
        due.is("17 u on panel 0", x.imageAt(0, 0, 0, 0), 0);
        due.is("17 u on panel 2 then", x.imageAt(2, 0, 0, 0), 20);
    }

    /** Each seam is tried in both directions. */
    private static void spreadBack() {
        for (int from = 1; from <= 4; from++) {
            DieLineChecker x = withBase(50, 50, 10, 10);
            for (int side = 0; side < 4; side++) {
                x.addPanel(0, side, 0, 10, 10, 0);
            }
            due.is("31 folds only", x.seamCount(), 4);
            x.defineImage(0, 60, 60);
            x.place(from, 0, 0, -25, -25);
            due.is("17 from panel " + from, x.spreadImage(from), 4);
            due.is("17 no breaks", x.seam(0, 7) + x.seam(1, 7) + x.seam(2, 7) + x.seam(3, 7), 0);
        }
    }

    /** The image goes on from every panel on which it is placed, not only from the named one. */
    private static void spreadFromOthers() {
        DieLineChecker x = withBase(50, 50, 10, 10);
        x.addPanel(0, 1, 0, 10, 10, 1);
        x.addPanel(0, 3, 0, 10, 10, 1);
        x.addPanel(2, 3, 0, 10, 10, 0);
        x.defineImage(0, 10, 10);
        x.place(1, 0, 0, 1, 0);
        x.place(2, 0, 0, -1, 0);
        x.defineImage(1, 9, 9);
        x.place(0, 1, 0, 0, 0);
        // Panel 1 has no reach at the fold; panel 2 has one at its west side, towards panel 3.
        due.is("17 from panel 2", x.spreadImage(1), 1);
        due.is("17 on panel 3", x.imageAt(3, 10, 0, 0), 1);
        x.undo();
        // From a flap it goes on as well.
        x.setFlap(2, 0);
        due.is("17 from a flap", x.spreadImage(1), 1);
    }
}
