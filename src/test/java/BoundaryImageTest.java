/** The boundary cases of promises 16, 17, 38 and 39, and of what "Terms" says about shown images and mismatches. */
public final class BoundaryImageTest {
    private static final int BAD = -1, STATE = -2, NONE = -9;

    public static void main(String[] args) throws Exception {
        Boundary.runAll(BoundaryImageTest.class);
    }

    private static void is(String call, long got, long want) {
        Boundary.is(call, got, want);
    }

    /** A base of 20 by 10 and a panel at its east side, with image 0 of 60 by 40 and image 1 of 200 by 200. */
    private static final Boundary.Setup PAIR = x -> {
        x.setBase(50, 60, 20, 10);
        x.addPanel(0, 1, 0, 10, 15, 1);
        x.defineImage(0, 60, 40);
        x.defineImage(1, 200, 200);
    };

    private static Boundary.Setup pairWith(int image, int orientation, int px, int py) {
        return x -> {
            PAIR.on(x);
            x.place(0, image, orientation, px, py);
        };
    }

    // ---- promise 16

    private static void promise16Seam() {
        Boundary.Setup printed = pairWith(0, 0, -10, -10);
        Boundary.range("seam", printed, (x, v) -> x.continueImage(v, false), 0, 0, 0, 0);
        // RICH: the last one of its seams, and the one behind it.
        int seams = Boundary.made(States.RICH).seamCount();
        is("RICH has seams", seams > 3 ? 1 : 0, 1);
        Boundary.refused("behind the last seam", States.RICH, x -> x.continueImage(seams, false), BAD);
        Boundary.refused("behind the last seam, back", States.RICH, x -> x.continueImage(seams, true), BAD);
        Boundary.refused("no seams at all", Boundary.NOTHING, x -> x.continueImage(0, true), BAD);
    }

    private static void promise16NoImage() {
        Boundary.refused("no image on p", PAIR, x -> x.continueImage(0, false), STATE);
        Boundary.refused("no image on q", pairWith(0, 0, -10, -10), x -> x.continueImage(0, true), STATE);
    }

    private static void promise16Reach() {
        // Image 0 is 60 wide: it ends at the fold at x 20 if px is -40.
        Boundary.taken("reach 1", pairWith(0, 0, -39, 0), x -> x.continueImage(0, false), 0);
        Boundary.taken("reach 0", pairWith(0, 0, -40, 0), x -> x.continueImage(0, false), 0);
        Boundary.refused("no reach", pairWith(0, 0, -41, 0), x -> x.continueImage(0, false), STATE);
        Boundary.refused("not shown, above", pairWith(0, 0, -10, 10), x -> x.continueImage(0, false), STATE);
        Boundary.taken("shown by 1", pairWith(0, 0, -10, 9), x -> x.continueImage(0, false), 0);
    }

    private static void promise16ReachBack() {
        Boundary.Setup none = x -> {
            PAIR.on(x);
            x.place(1, 0, 0, 1, 0);
        };
        Boundary.Setup zero = x -> {
            PAIR.on(x);
            x.place(1, 0, 0, 0, 0);
        };
        Boundary.refused("no reach", none, x -> x.continueImage(0, true), STATE);
        Boundary.taken("reach 0", zero, x -> x.continueImage(0, true), 0);
    }

    private static void promise16ThePositionIsNotBelowMinus300() {
        Boundary.Setup far = x -> {
            x.setSheet(300, 300);
            x.setBase(0, 0, 100, 300);
            x.addPanel(0, 1, 200, 20, 10, 1);
            x.defineImage(0, 200, 200);
            x.place(0, 0, 0, -50, -100);
        };
        // On panel 1 the position is (px - 100, py - 200).
        DieLineChecker x = Boundary.made(far);
        is("py -300", x.continueImage(0, false), 0);
        is("v", x.imageAt(1, 0, 0, 1), 300);
        Boundary.refused("py -301", y -> {
            far.on(y);
            y.place(0, 0, 0, -50, -101);
        }, y -> y.continueImage(0, false), STATE);
        Boundary.Setup wide = y -> {
            y.setSheet(300, 300);
            y.setBase(0, 0, 300, 100);
            y.addPanel(0, 2, 200, 20, 10, 1);
            y.defineImage(0, 200, 200);
            y.place(0, 0, 0, -100, -50);
        };
        x = Boundary.made(wide);
        is("px -300", x.continueImage(0, false), 0);
        is("u", x.imageAt(1, 0, 0, 0), 300);
        Boundary.refused("px -301", y -> {
            wide.on(y);
            y.place(0, 0, 0, -101, -50);
        }, y -> y.continueImage(0, false), STATE);
    }

    /**
     * Panel 1 hangs down from z 0 to -280. Panels 2 to 4 go up to z 140, 1 to the side, and down to z -5, so that
     * panel 4 meets panel 1 from z -5 to 0; the beginning of panel 4 is 140 units above that of panel 1.
     */
    private static Boundary.Setup tower(boolean turned, int place) {
        int first = turned ? 2 : 1;
        int second = turned ? 1 : 2;
        return x -> {
            x.setSheet(300, 300);
            x.setBase(0, 0, 10, 10);
            x.addPanel(0, first, 0, 10, 280, 1);
            x.addPanel(0, second, 0, 10, 140, -1);
            x.addPanel(2, second, 0, 10, 1, 1);
            x.addPanel(3, second, 0, 10, 145, 1);
            x.defineImage(0, 20, 20);
            x.place(1, 0, 0, turned ? 0 : place, turned ? place : 0);
        };
    }

    private static void promise16ThePositionIsNotAbove300() {
        DieLineChecker x = Boundary.made(tower(false, 160));
        int seam = Boundary.seamOf(x, 1, 2, 4, 1);
        is("there is such a seam", seam != NONE ? 1 : 0, 1);
        is("its length", x.seam(seam, 4), 5);
        is("its gap", x.seam(seam, 5), 1);
        is("py 300", x.continueImage(seam, false), 1);
        // u is 0 at x 160 of panel 1, which is z -160, and 300 below the beginning of panel 4.
        is("u", x.imageAt(4, 10, 300, 0), 0);
        is("v", x.imageAt(4, 10, 300, 1), 10);
        Boundary.refused("py 301", tower(false, 161), y -> y.continueImage(seam, false), STATE);

        x = Boundary.made(tower(true, 160));
        int other = Boundary.seamOf(x, 1, 1, 4, 2);
        is("there is such a seam, turned", other != NONE ? 1 : 0, 1);
        is("px 300", x.continueImage(other, false), 3);
        is("v, turned", x.imageAt(4, 300, 10, 1), 0);
        is("u, turned", x.imageAt(4, 300, 10, 0), 10);
        Boundary.refused("px 301", tower(true, 161), y -> y.continueImage(other, false), STATE);
    }

    private static void promise16InPlaceOfAnImage() {
        DieLineChecker x = Boundary.made(pairWith(0, 0, -10, -10));
        x.place(1, 1, 7, 3, 3);
        is("continueImage", x.continueImage(0, false), 0);
        is("the image of p", x.clearImage(1), 0);
    }

    private static void promise16ContinuingWhatIsThereIsAnAct() {
        DieLineChecker x = Boundary.made(pairWith(0, 0, -10, -10));
        x.continueImage(0, false);
        int acts = x.count(1);
        is("again", x.continueImage(0, false), 0);
        is("acts", x.count(1), acts + 1);
    }

    // ---- promise 17

    private static void promise17Panel() {
        Boundary.Setup all = x -> {
            States.RICH.on(x);
            x.place(0, 2, 0, 300, 300);
            x.place(4, 2, 0, 300, 300);
        };
        Boundary.range("panel", all, (x, v) -> x.spreadImage(v), 0, 0, 4, 0);
        Boundary.refused("no panels at all", Boundary.NOTHING, x -> x.spreadImage(0), BAD);
    }

    private static void promise17NoImageIsPlaced() {
        Boundary.refused("panel 1", States.RICH, x -> x.spreadImage(1), STATE);
        Boundary.refused("panel 3", States.RICH, x -> x.spreadImage(3), STATE);
    }

    private static void promise17AnImageThatIsNotShown() {
        DieLineChecker x = Boundary.made(pairWith(0, 0, 300, 300));
        is("nowhere", x.spreadImage(0), 0);
        is("an act", x.count(1), 6);
        is("undo", x.undo(), 5);
    }

    private static void promise17OnAllOtherPanels() {
        DieLineChecker x = Boundary.made(States.TEN_PANELS);
        x.defineImage(0, 100, 8);
        x.place(0, 0, 0, 0, 0);
        is("nine panels", x.spreadImage(0), 9);
        for (int p = 0; p < 10; p++) {
            is("u of panel " + p, x.imageAt(p, 0, 0, 0), 10 * p);
        }
        x.undo();
        x.clearImage(0);
        x.place(9, 0, 0, -90, 0);
        is("from the last one", x.spreadImage(9), 9);
        is("u of panel 0 then", x.imageAt(0, 0, 0, 0), 0);
    }

    private static void promise17AsFarAsThereIsAReach() {
        for (int width = 29; width <= 31; width++) {
            DieLineChecker x = Boundary.made(States.TEN_PANELS);
            x.defineImage(0, width, 8);
            x.place(0, 0, 0, 0, 0);
            // At 30 the image still ends at the fold of panel 3 exactly, and is continued, but not shown there.
            is("width " + width, x.spreadImage(0), width == 29 ? 2 : 3);
        }
    }

    private static void promise17NotOnFlapsAndImages() {
        Boundary.Setup row = x -> {
            States.TEN_PANELS.on(x);
            x.defineImage(0, 100, 8);
            x.defineImage(1, 5, 5);
            x.place(0, 0, 0, 0, 0);
        };
        Boundary.taken("a flap in the way", y -> {
            row.on(y);
            y.setFlap(4, 0);
        }, x -> x.spreadImage(0), 3);
        Boundary.taken("another image in the way", y -> {
            row.on(y);
            y.place(4, 1, 0, 0, 0);
        }, x -> x.spreadImage(0), 3);
        Boundary.taken("the last one is a flap", y -> {
            row.on(y);
            y.setFlap(9, 0);
        }, x -> x.spreadImage(0), 8);
    }

    private static void promise17NotWhereThePositionIsOutOfRange() {
        DieLineChecker x = new DieLineChecker();
        x.setSheet(300, 300);
        x.setBase(0, 0, 100, 300);
        x.addPanel(0, 1, 200, 20, 10, 1);
        x.defineImage(0, 200, 200);
        x.place(0, 0, 0, -50, -101);
        is("py would be -301", x.spreadImage(0), 0);
        x.place(0, 0, 0, -50, -100);
        is("py is -300", x.spreadImage(0), 1);
    }

    private static void promise17OneActForAll() {
        DieLineChecker x = Boundary.made(States.TEN_PANELS);
        x.defineImage(0, 100, 8);
        x.place(0, 0, 0, 0, 0);
        is("12 acts", x.count(1), 12);
        is("nine panels", x.spreadImage(0), 9);
        is("still 12", x.count(1), 12);
        is("undo", x.undo(), 11);
        for (int p = 1; p < 10; p++) {
            is("no image on " + p, x.imageAt(p, 0, 0, 0), NONE);
        }
        is("image on 0", x.imageAt(0, 0, 0, 0), 0);
    }

    // ---- promise 38

    private static void promise38Panel() {
        Boundary.range("panel", States.RICH, (x, v) -> x.imageAt(v, 0, 0, 0), 0, 5, 4, 10);
        Boundary.refused("no panels at all", Boundary.NOTHING, x -> x.imageAt(0, 0, 0, 0), BAD);
    }

    private static void promise38PointFromMinus300To300() {
        Boundary.range("x", States.RICH, (x, v) -> x.imageAt(0, v, 0, 0), -300, -295, 300, 305);
        Boundary.range("y", States.RICH, (x, v) -> x.imageAt(0, 0, v, 1), -300, -294, 300, 306);
    }

    private static void promise38AxisFrom0To1() {
        Boundary.range("axis", States.RICH, (x, v) -> x.imageAt(0, 0, 0, v), 0, 5, 1, 6);
    }

    private static void promise38NoImageIsPlaced() {
        Boundary.taken("panel 1", States.RICH, x -> x.imageAt(1, 0, 0, 0), NONE);
        Boundary.taken("placed, but not shown", x -> {
            States.RICH.on(x);
            x.place(1, 0, 0, 300, 300);
        }, x -> x.imageAt(1, 0, 0, 0), -300);
    }

    private static void promise38BadBeforeNone() {
        Boundary.refused("x 301", States.RICH, x -> x.imageAt(1, 301, 0, 0), BAD);
        Boundary.refused("y -301", States.RICH, x -> x.imageAt(1, 0, -301, 0), BAD);
        Boundary.refused("axis 2", States.RICH, x -> x.imageAt(1, 0, 0, 2), BAD);
    }

    private static void promise38EqualToAnErrorCode() {
        DieLineChecker x = Boundary.made(States.RICH);
        for (int u : new int[] {-1, -2, -3, -4, -9}) {
            is("u " + u, x.imageAt(0, u - 5, 0, 0), u);
            is("v " + u, x.imageAt(0, 0, u - 6, 1), u);
        }
    }

    private static void promise38FarthestCoordinates() {
        DieLineChecker x = Boundary.made(PAIR);
        x.place(0, 1, 0, 300, 300);
        is("smallest u", x.imageAt(0, -300, 0, 0), -600);
        is("smallest v", x.imageAt(0, 0, -300, 1), -600);
        x.place(0, 1, 2, 300, 300);
        is("greatest u", x.imageAt(0, -300, 0, 0), 800);
        is("greatest v", x.imageAt(0, 0, -300, 1), 800);
    }

    // ---- promise 39

    private static void promise39Panel() {
        Boundary.range("panel", States.RICH, (x, v) -> x.reach(v, 1), 0, 35, 4, 1);
        Boundary.refused("no panels at all", Boundary.NOTHING, x -> x.reach(0, 0), BAD);
    }

    private static void promise39SideFrom0To3() {
        Boundary.range("side", States.RICH, (x, v) -> x.reach(0, v), 0, 6, 3, 5);
        Boundary.refused("BAD before NONE", States.RICH, x -> x.reach(1, 4), BAD);
    }

    private static void promise39NoImageIsPlaced() {
        for (int side = 0; side < 4; side++) {
            int which = side;
            Boundary.taken("side " + side, States.RICH, x -> x.reach(1, which), NONE);
        }
    }

    private static void promise39EndsAtTheSideExactly() {
        // A base of 20 by 10 and an image of 60 by 40: at (px, py) it reaches -py, 40 + px, 30 + py and -px.
        int[][] zero = {{-5, 0}, {-40, -5}, {-5, -30}, {0, -5}};
        int[][] inward = {{0, 1}, {-1, 0}, {0, -1}, {1, 0}};
        for (int side = 0; side < 4; side++) {
            int which = side;
            int px = zero[side][0];
            int py = zero[side][1];
            Boundary.taken("at side " + side, pairWith(0, 0, px, py), x -> x.reach(0, which), 0);
            Boundary.taken("1 beyond side " + side, pairWith(0, 0, px - inward[side][0], py - inward[side][1]),
                x -> x.reach(0, which), 1);
            Boundary.taken("1 before side " + side, pairWith(0, 0, px + inward[side][0], py + inward[side][1]),
                x -> x.reach(0, which), NONE);
        }
    }

    private static void promise39OfATurnedImage() {
        // Turned by a quarter the image of 60 by 40 is 40 wide and 60 high.
        for (int orientation : new int[] {1, 3, 5, 7}) {
            Boundary.taken("east 0", pairWith(0, orientation, -20, -5), x -> x.reach(0, 1), 0);
            Boundary.taken("east none", pairWith(0, orientation, -21, -5), x -> x.reach(0, 1), NONE);
            Boundary.taken("north 0", pairWith(0, orientation, -5, -50), x -> x.reach(0, 2), 0);
            Boundary.taken("north none", pairWith(0, orientation, -5, -51), x -> x.reach(0, 2), NONE);
        }
        for (int orientation : new int[] {0, 2, 4, 6}) {
            Boundary.taken("east 0", pairWith(0, orientation, -40, -5), x -> x.reach(0, 1), 0);
            Boundary.taken("east none", pairWith(0, orientation, -41, -5), x -> x.reach(0, 1), NONE);
            Boundary.taken("north 0", pairWith(0, orientation, -5, -30), x -> x.reach(0, 2), 0);
            Boundary.taken("north none", pairWith(0, orientation, -5, -31), x -> x.reach(0, 2), NONE);
        }
    }

    // ---- the section "Terms"

    private static int reaches(Boundary.Setup setup) {
        DieLineChecker x = Boundary.made(setup);
        int found = 0;
        for (int side = 0; side < 4; side++) {
            found += x.reach(0, side) != NONE ? 1 : 0;
        }
        return found;
    }

    private static void termsAPanelShowsAnImage() {
        // The image only touches the panel in the first place, and has 1 unit in common with it in the second one.
        int[][][] places = {{{20, 0}, {19, 0}}, {{-60, 0}, {-59, 0}}, {{0, 10}, {0, 9}}, {{0, -40}, {0, -39}}};
        for (int[][] place : places) {
            is("touches", reaches(pairWith(0, 0, place[0][0], place[0][1])), 0);
            is("is shown", reaches(pairWith(0, 0, place[1][0], place[1][1])) > 0 ? 1 : 0, 1);
        }
        is("touches with a corner", reaches(pairWith(0, 0, 20, 10)), 0);
        is("covers a corner", reaches(pairWith(0, 0, 19, 9)), 2);
    }

    private static void termsTurnedImages() {
        // Where (0, 0) and (60, 40) of the image come to lie for each orientation, when it is placed at (0, 0).
        int[][] origin = {{0, 0}, {40, 0}, {60, 40}, {0, 60}, {60, 0}, {40, 60}, {0, 40}, {0, 0}};
        int[][] corner = {{60, 40}, {0, 60}, {0, 0}, {40, 0}, {0, 40}, {0, 0}, {60, 0}, {40, 60}};
        for (int way = 0; way < 8; way++) {
            DieLineChecker x = Boundary.made(pairWith(0, way, 0, 0));
            is("u of the origin", x.imageAt(0, origin[way][0], origin[way][1], 0), 0);
            is("v of the origin", x.imageAt(0, origin[way][0], origin[way][1], 1), 0);
            is("u of the corner", x.imageAt(0, corner[way][0], corner[way][1], 0), 60);
            is("v of the corner", x.imageAt(0, corner[way][0], corner[way][1], 1), 40);
        }
    }

    /** The mismatch at the fold between two placements of one image. */
    private static int mismatch(int image, int px0, int way1, int px1, int py1) {
        DieLineChecker x = Boundary.made(pairWith(image, 0, px0, -10));
        x.place(1, image, way1, px1, py1);
        return x.seam(0, 7);
    }

    private static void termsMismatchNeedsBothReaches() {
        is("both", mismatch(0, -40, 0, 0, -10), 60);
        is("none on p", mismatch(0, -41, 0, 0, -10), NONE);
        is("none on q", mismatch(0, -40, 0, 1, -10), NONE);
    }

    private static void termsMismatchOfAnUnshownImage() {
        // On panel 1, 15 by 10: the image reaches beyond the west side, but only touches the panel.
        is("not shown by q", mismatch(0, -10, 0, -60, -10), NONE);
        is("shown by q", mismatch(0, -10, 0, -59, -10), 29);
        is("not shown by q, above", mismatch(0, -10, 0, -30, 10), NONE);
        is("shown by q, above", mismatch(0, -10, 0, -30, 9), 19);
    }

    private static void termsMismatchIsTheGreatestDifference() {
        // Image 0 at -10 on the base has u 30 at the fold, and v from 10 to 20.
        is("none", mismatch(0, -10, 0, -30, -10), 0);
        is("u by 1", mismatch(0, -10, 0, -29, -10), 1);
        is("v by 2", mismatch(0, -10, 0, -29, -12), 2);
        is("u by 3", mismatch(0, -10, 0, -33, -12), 3);
    }

    private static void termsMismatchOfAtLeast100() {
        // Image 1 at -100 on the base has u 120 at the fold; mirrored on panel 1 u is 200 + px and falls.
        is("difference 0", mismatch(1, -100, 4, -80, -10), 100);
        is("difference 1", mismatch(1, -100, 4, -79, -10), 100);
        is("difference 99", mismatch(1, -100, 4, -179, -10), 100);
        is("difference 100", mismatch(1, -100, 4, -180, -10), 100);
        is("difference 101", mismatch(1, -100, 4, -181, -10), 101);
        // The same way there is no such least value.
        is("difference 99, the same way", mismatch(1, -20, 0, -139, -10), 99);
    }

    private static void termsMismatchAtBothEnds() {
        // Turned upside down and mirrored, u goes on over the fold while v falls: 200 - (y - py) at y 0 and 10.
        is("0 at the lower end", mismatch(1, -100, 6, -120, -190), 20);
        is("0 at the upper end", mismatch(1, -100, 6, -120, -170), 20);
        is("in the middle", mismatch(1, -100, 6, -120, -180), 10);
    }
}
