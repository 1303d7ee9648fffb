/** The boundary cases of promises 28 to 37, and of what "Terms" says about the folded design. */
public final class BoundaryFoldedTest {
    private static final int BAD = -1, STATE = -2, NONE = -9;

    public static void main(String[] args) throws Exception {
        Boundary.runAll(BoundaryFoldedTest.class);
    }

    private static void is(String call, long got, long want) {
        Boundary.is(call, got, want);
    }

    private static DieLineChecker based(int left, int low, int width, int height) {
        DieLineChecker x = new DieLineChecker();
        is("setBase", x.setBase(left, low, width, height), 0);
        return x;
    }

    // ---- promise 28

    private static void promise28Panel() {
        Boundary.range("panel", States.RICH, (x, v) -> x.corner(v, 0, 0), 0, 60, 4, 80);
        Boundary.refused("no panels at all", Boundary.NOTHING, x -> x.corner(0, 0, 0), BAD);
    }

    private static void promise28CornerFrom0To3() {
        Boundary.range("corner", States.RICH, (x, v) -> x.corner(0, v, 1), 0, 60, 3, 76);
        int[] across = {60, 80, 80, 60};
        for (int corner = 0; corner < 4; corner++) {
            int which = corner;
            Boundary.taken("x of corner " + corner, States.RICH, x -> x.corner(0, which, 0), across[corner]);
        }
    }

    private static void promise28AxisFrom0To2() {
        Boundary.range("axis", States.RICH, (x, v) -> x.corner(0, 2, v), 0, 80, 2, 0);
    }

    private static void promise28EqualToAnErrorCode() {
        for (int depth : new int[] {1, 2, 3, 4, 9}) {
            DieLineChecker x = based(50, 50, 20, 20);
            x.addPanel(0, 1, 0, 20, depth, 1);
            is("z", x.corner(1, 1, 2), -depth);
            x.setBase(0, 0, 20, 20);
            x.addPanel(0, 2, 0, 20, 9, 0);
            x.addPanel(1, 1, 0, 9, 20 + depth, 2);
            is("x", x.corner(2, 1, 0), -depth);
        }
    }

    private static void promise28FarthestCorner() {
        DieLineChecker x = new DieLineChecker();
        x.setSheet(300, 300);
        x.setBase(0, 0, 1, 300);
        x.addPanel(0, 1, 0, 300, 299, 1);
        is("down", x.corner(1, 1, 2), -299);
        x.setAngle(1, -1);
        is("up", x.corner(1, 1, 2), 299);
        x.setAngle(1, 2);
        is("back", x.corner(1, 1, 0), 1 - 299);
    }

    // ---- promise 29

    private static void promise29Panel() {
        Boundary.range("panel", States.RICH, (x, v) -> x.facing(v), 0, 4, 4, 1);
        Boundary.refused("no panels at all", Boundary.NOTHING, x -> x.facing(0), BAD);
    }

    private static void promise29EveryDirection() {
        // At side s with the angle 1 the normal points outward: -y, x, y, -x; with -1 inward.
        int[] outward = {3, 0, 2, 1};
        int[] inward = {2, 1, 3, 0};
        for (int side = 0; side < 4; side++) {
            DieLineChecker x = based(50, 50, 20, 20);
            x.addPanel(0, side, 0, 20, 5, 1);
            is("angle 1 at side " + side, x.facing(1), outward[side]);
            x.setAngle(1, -1);
            is("angle -1 at side " + side, x.facing(1), inward[side]);
            x.setAngle(1, 0);
            is("angle 0 at side " + side, x.facing(1), 4);
            x.setAngle(1, 2);
            is("angle 2 at side " + side, x.facing(1), 5);
        }
    }

    // ---- promise 30

    private static void promise30Panel() {
        Boundary.range("panel", States.TEN_PANELS, (x, v) -> x.openLength(v, 1), 0, 0, 9, 8);
        Boundary.refused("no panels at all", Boundary.NOTHING, x -> x.openLength(0, 0), BAD);
    }

    private static void promise30SideFrom0To3() {
        Boundary.range("side", States.TEN_PANELS, (x, v) -> x.openLength(0, v), 0, 10, 3, 8);
    }

    private static void promise30NothingAndAll() {
        DieLineChecker x = based(50, 60, 20, 10);
        is("the whole side", x.openLength(0, 0), 20);
        x.addPanel(0, 0, 0, 20, 5, 1);
        is("nothing of it", x.openLength(0, 0), 0);
    }

    // ---- promise 31

    private static void promise31NoSeams() {
        is("no panels", new DieLineChecker().seamCount(), 0);
        is("a base", based(50, 60, 20, 10).seamCount(), 0);
    }

    private static void promise31OneForEachFold() {
        DieLineChecker x = based(50, 60, 20, 10);
        x.addPanel(0, 0, 0, 1, 5, 0);
        is("one fold", x.seamCount(), 1);
        is("nine folds", Boundary.made(States.TEN_PANELS).seamCount(), 9);
    }

    private static void promise31AllSidesMeet() {
        // Ten panels of 1 by 1 within the tolerance 20: any two have 2 * 2 pairs of sides along an axis that meet
        // if their extents have a common part; folded back and forth all lie on each other, with 8 such pairs.
        DieLineChecker x = new DieLineChecker();
        x.setBase(50, 60, 1, 1);
        for (int p = 0; p < 9; p++) {
            x.addPanel(p, 1, 0, 1, 1, 2);
        }
        x.setLimit(0, 20);
        is("all pairs of panels, all pairs of sides", x.seamCount(), 45 * 8);
        is("the last seam's p", x.seam(359, 0), 8);
        is("the last seam's q", x.seam(359, 2), 9);
        is("behind it", x.seam(360, 0), BAD);
    }

    // ---- promise 32

    private static void promise32Seam() {
        Boundary.range("seam", States.TEN_PANELS, (x, v) -> x.seam(v, 0), 0, 0, 8, 8);
        Boundary.refused("no seams at all", Boundary.NOTHING, x -> x.seam(0, 0), BAD);
    }

    private static void promise32WhatFrom0To7() {
        Boundary.range("what", States.TEN_PANELS, (x, v) -> x.seam(8, v), 0, 8, 7, NONE);
        int[] values = {8, 1, 9, 3, 8, 0, 1, NONE};
        for (int what = 0; what < 8; what++) {
            int which = what;
            Boundary.taken("what " + what, States.TEN_PANELS, x -> x.seam(8, which), values[what]);
        }
    }

    private static void promise32TheMismatchIsNotDefined() {
        DieLineChecker x = Boundary.made(States.TEN_PANELS);
        x.defineImage(0, 15, 8);
        x.defineImage(1, 15, 8);
        x.place(0, 0, 0, 0, 0);
        is("one image", x.seam(0, 7), NONE);
        x.place(1, 1, 0, -10, 0);
        is("two images", x.seam(0, 7), NONE);
        x.place(1, 0, 0, -10, 0);
        is("the same image", x.seam(0, 7), 0);
    }

    // ---- promise 33

    private static void promise33Panel() {
        Boundary.range("panel", States.RICH, (x, v) -> x.coverage(v), 0, NONE, 4, 0);
        Boundary.refused("no panels at all", Boundary.NOTHING, x -> x.coverage(0), BAD);
    }

    private static void promise33NotAFlap() {
        Boundary.taken("base", States.RICH, x -> x.coverage(0), NONE);
        Boundary.taken("panel 3", States.RICH, x -> x.coverage(3), NONE);
        Boundary.taken("not any more", x -> {
            States.RICH.on(x);
            x.setFlap(4, NONE);
        }, x -> x.coverage(4), NONE);
    }

    /** A flap 2 folded back twice, so that its first units lie on the base; the tolerance is 0. */
    private static DieLineChecker pleat(int under, int depth) {
        DieLineChecker x = based(50, 60, 20, 10);
        x.setLimit(0, 0);
        x.addPanel(0, 1, 0, 10, under, 2);
        x.addPanel(1, 1, 0, 10, depth, 2);
        x.setFlap(2, 0);
        return x;
    }

    private static void promise33RoundedDown() {
        is("all", pleat(9, 9).coverage(2), 100);
        is("19 of 20", pleat(19, 20).coverage(2), 95);
        is("1 of 3", pleat(1, 3).coverage(2), 33);
        is("2 of 3", pleat(2, 3).coverage(2), 66);
        is("1 of 100", pleat(1, 100).coverage(2), 1);
        is("1 of 101", pleat(1, 101).coverage(2), 0);
    }

    private static void promise33TheSameNormal() {
        DieLineChecker x = pleat(5, 5);
        is("the same", x.coverage(2), 100);
        x.setFlap(1, 0);
        is("the opposite one", x.coverage(1), 0);
        x.setFlap(2, 1);
        is("the opposite one of panel 1", x.coverage(2), 0);
    }

    private static void promise33DistanceUpToTheTolerance() {
        // A sleeve whose last side is 2 shorter: the flap lies 2 below the base, with the same normal.
        DieLineChecker x = based(40, 60, 30, 50);
        x.addPanel(0, 1, 0, 50, 20, 1);
        x.addPanel(1, 1, 0, 50, 30, 1);
        x.addPanel(2, 1, 0, 50, 18, 1);
        x.addPanel(3, 1, 10, 20, 8, 1);
        x.setFlap(4, 0);
        x.setLimit(0, 1);
        is("tolerance 1", x.coverage(4), 0);
        x.setLimit(0, 2);
        is("tolerance 2", x.coverage(4), 100);
    }

    // ---- promise 34

    private static DieLineChecker box(int width, int height, int depth) {
        DieLineChecker x = based(90, 90, width, height);
        for (int side = 0; side < 4; side++) {
            x.addPanel(0, side, 0, side % 2 == 0 ? width : height, depth, 1);
        }
        x.addPanel(3, 2, 0, width, height, 1);
        return x;
    }

    private static void promise34NoPanels() {
        Boundary.refused("no panels", Boundary.NOTHING, x -> x.volume(), STATE);
        Boundary.refused("removed", x -> {
            x.setBase(1, 1, 5, 5);
            x.removeLast();
        }, x -> x.volume(), STATE);
    }

    private static void promise34AnOpenSide() {
        DieLineChecker x = box(20, 10, 5);
        is("closed", x.volume(), 1000);
        x.setLimit(0, 0);
        is("closed without a tolerance", x.volume(), 1000);
        x.setSize(5, 2, 9);
        is("open by 1", x.volume(), STATE);
        x.setLimit(0, 1);
        is("open by 1 within the tolerance", x.volume() > 0 ? 1 : 0, 1);
        x.setSize(5, 2, 8);
        is("open by 2 with the tolerance 1", x.volume(), STATE);
        x.removeLast();
        is("a tray", x.volume(), STATE);
        Boundary.refused("an open design", States.RICH, y -> y.volume(), STATE);
    }

    private static void promise34SidesOfFlapsMayBeOpen() {
        DieLineChecker x = box(20, 10, 5);
        x.addPanel(5, 2, 0, 20, 2, 0);
        is("a panel that stands out", x.volume(), STATE);
        is("its far side", x.openLength(6, 2) > 0 ? 1 : 0, 1);
        x.setFlap(6, 1);
        is("a flap that stands out", x.volume(), 1000);
    }

    private static void promise34AnOpenLengthOf1() {
        // The lid lacks 2 units, which a flap closes but for its last ones: with the length 19 it is 1 away from the
        // wall, within the tolerance; with 18 the lid, the wall behind it and the wall beside it are open by 1 each.
        for (int length = 18; length <= 20; length++) {
            DieLineChecker x = box(20, 10, 5);
            x.setSize(5, 2, 8);
            x.addPanel(5, 2, 0, length, 2, 0);
            x.setFlap(6, 1);
            int open = 0;
            for (int p = 0; p < 6; p++) {
                for (int side = 0; side < 4; side++) {
                    open = Math.max(open, x.openLength(p, side));
                }
            }
            is("the greatest open length with " + length, open, length == 18 ? 1 : 0);
            is("volume with " + length, x.volume(), length == 18 ? STATE : 2800 / 3);
        }
    }

    private static void promise34RoundedDown() {
        // The lid is 1 short: its area lacks 1 * 20 at the distance 5 from the base, of 3000 in all.
        DieLineChecker x = box(20, 10, 5);
        x.setSize(5, 2, 9);
        is("2900 / 3", x.volume(), 966);
        x.setSize(5, 2, 11);
        is("3100 / 3", x.volume(), 1033);
    }

    private static void promise34TheAbsoluteValue() {
        DieLineChecker x = box(20, 10, 5);
        for (int p = 1; p <= 5; p++) {
            x.setAngle(p, -1);
        }
        is("folded the other way", x.volume(), 1000);
        x.setSize(5, 2, 9);
        is("rounded toward 0", x.volume(), 966);
    }

    private static void promise34SmallestVolume() {
        DieLineChecker x = box(1, 1, 1);
        x.setLimit(0, 0);
        is("1 by 1 by 1", x.volume(), 1);
        DieLineChecker flat = based(50, 50, 20, 20);
        flat.addPanel(0, 1, 0, 20, 20, 2);
        is("two panels on each other", flat.volume(), 0);
    }

    // ---- promise 35

    private static void promise35NoPanels() {
        is("no panels", new DieLineChecker().leastTolerance(), 0);
    }

    private static void promise35From0To20() {
        DieLineChecker x = new DieLineChecker();
        x.setSheet(300, 300);
        x.setBase(100, 60, 60, 60);
        for (int side = 0; side < 4; side++) {
            x.addPanel(0, side, 0, 60, 50, 1);
        }
        x.addPanel(3, 2, 0, 60, 60, 1);
        is("closed", x.leastTolerance(), 0);
        for (int slit : new int[] {1, 2, 19, 20}) {
            x.setSize(5, 2, 60 - slit);
            is("a slit of " + slit, x.leastTolerance(), slit);
        }
        x.setSize(5, 2, 39);
        is("a slit of 21", x.leastTolerance(), NONE);
    }

    private static void promise35TheCoverage() {
        DieLineChecker x = box(20, 10, 5);
        x.addPanel(5, 2, 0, 20, 4, 1);
        x.setFlap(6, 1);
        // The flap hangs in front of panel 1, at the distance 0, and covers it.
        is("covered", x.leastTolerance(), 0);
        x.setLimit(3, 100);
        is("wholly covered", x.leastTolerance(), 0);
        x.setFlap(6, 2);
        is("not covered", x.leastTolerance(), NONE);
        x.setLimit(3, 0);
        is("need not be covered", x.leastTolerance(), 0);
        x.setLimit(3, 1);
        is("1 percent", x.leastTolerance(), NONE);
    }

    private static void promise35WhateverTheWeights() {
        DieLineChecker x = box(20, 10, 5);
        x.setSize(5, 2, 8);
        x.setWeight(0, 0);
        x.setWeight(3, 0);
        is("weights 0", x.leastTolerance(), 2);
        x.setLimit(0, 20);
        is("and the tolerance 20", x.leastTolerance(), 2);
        is("which stays", x.setLimit(0, 1), 20);
    }

    // ---- promise 36

    private static void promise36Negative() {
        Boundary.taken("none", States.RICH, x -> x.crossings(0), 0);
        Boundary.refused("-1", States.RICH, x -> x.crossings(-1), BAD);
        Boundary.refused("-2", States.RICH, x -> x.crossings(-2), BAD);
        Boundary.refused("the smallest", States.RICH, x -> x.crossings(Integer.MIN_VALUE), BAD);
    }

    private static void promise36TheBase() {
        Boundary.taken("panel 1", States.RICH, x -> x.crossings(2), 0);
        Boundary.refused("the base", States.RICH, x -> x.crossings(1), BAD);
        Boundary.refused("the base and panel 1", States.RICH, x -> x.crossings(3), BAD);
        Boundary.refused("no panels at all", Boundary.NOTHING, x -> x.crossings(1), BAD);
        Boundary.taken("no panels, no folds", Boundary.NOTHING, x -> x.crossings(0), 0);
    }

    private static void promise36PanelsThatDoNotExist() {
        Boundary.taken("all of five", States.RICH, x -> x.crossings(30), 0);
        Boundary.refused("a sixth one", States.RICH, x -> x.crossings(32), BAD);
        Boundary.refused("a sixth one too", States.RICH, x -> x.crossings(62), BAD);
        Boundary.taken("all of ten", States.TEN_PANELS, x -> x.crossings(1022), 0);
        Boundary.refused("an eleventh one", States.TEN_PANELS, x -> x.crossings(1024), BAD);
        Boundary.refused("an eleventh one too", States.TEN_PANELS, x -> x.crossings(2046), BAD);
        Boundary.refused("the highest bit", States.TEN_PANELS, x -> x.crossings(1 << 30), BAD);
        Boundary.refused("all bits", States.TEN_PANELS, x -> x.crossings(Integer.MAX_VALUE), BAD);
    }

    private static void promise36ARemovedPanelDoesNotCross() {
        DieLineChecker x = spiral(5, 10, 12);
        is("three panels", x.crossings(14), 1);
        x.removeLast();
        is("two panels", x.crossings(6), 0);
        is("panel 3 does not exist", x.crossings(14), BAD);
        is("no finding", x.findingCount(), 0);
        is("an order", x.foldStep(1), 2);
    }

    // ---- promise 37

    private static void promise37Negative() {
        Boundary.refused("-1", States.RICH, x -> x.foldStep(-1), BAD);
        Boundary.refused("the smallest", States.RICH, x -> x.foldStep(Integer.MIN_VALUE), BAD);
        Boundary.refused("no panels", Boundary.NOTHING, x -> x.foldStep(-1), BAD);
    }

    private static void promise37NotSoManyFolds() {
        Boundary.taken("first", States.RICH, x -> x.foldStep(0), 1);
        Boundary.taken("last", States.RICH, x -> x.foldStep(3), 4);
        Boundary.taken("behind the last", States.RICH, x -> x.foldStep(4), NONE);
        Boundary.taken("far behind", States.RICH, x -> x.foldStep(Integer.MAX_VALUE), NONE);
        Boundary.taken("no folds", States.TEN_PANELS, x -> x.foldStep(0), NONE);
        Boundary.taken("no panels", Boundary.NOTHING, x -> x.foldStep(0), NONE);
    }

    private static void promise37NineFolds() {
        DieLineChecker x = Boundary.made(States.TEN_PANELS);
        for (int p = 1; p < 10; p++) {
            x.setAngle(p, 2);
        }
        for (int k = 0; k < 9; k++) {
            is("step " + k, x.foldStep(k), k + 1);
        }
        is("step 9", x.foldStep(9), NONE);
        x.setAngle(5, 0);
        is("without panel 5", x.foldStep(4), 6);
        is("step 8 then", x.foldStep(8), NONE);
    }

    private static void promise37NoSuchOrder() {
        // Panel 3 goes up through the base; with a tolerance of 5 it does not.
        DieLineChecker x = spiral(5, 10, 12);
        is("no order", x.foldStep(0), NONE);
        x.setLimit(0, 5);
        is("an order", x.foldStep(2), 3);
    }

    private static void promise37NoOrderAlthoughAllFoldsTogetherDoNotCross() {
        DieLineChecker x = based(140, 140, 1, 5);
        x.setLimit(0, 0);
        x.addPanel(0, 3, 4, 1, 1, 1);
        x.addPanel(1, 3, 0, 1, 8, 1);
        x.addPanel(2, 0, 5, 2, 4, 0);
        x.addPanel(0, 1, 2, 1, 8, 1);
        x.addPanel(4, 2, 0, 8, 5, 1);
        is("panels", x.count(0), 6);
        is("all four folds", x.crossings(2 + 4 + 16 + 32), 0);
        // Whichever fold is the last one, panels cross before it.
        is("without panel 1", x.crossings(4 + 16 + 32), 1);
        is("without panel 2", x.crossings(2 + 16 + 32), 1);
        is("without panel 4", x.crossings(2 + 4 + 32), 1);
        is("without panel 5", x.crossings(2 + 4 + 16), 1);
        for (int k = 0; k < 5; k++) {
            is("step " + k, x.foldStep(k), NONE);
        }
        x.setAngle(5, 0);
        is("three folds cross", x.foldStep(0), NONE);
        x.setAngle(4, 0);
        is("two folds do not", x.foldStep(0), 1);
        is("the second one", x.foldStep(1), 2);
    }

    // ---- the section "Terms"

    /** A chain that goes down, back below the base, and up again. */
    private static DieLineChecker spiral(int down, int back, int up) {
        DieLineChecker x = based(50, 50, 20, 20);
        x.addPanel(0, 1, 0, 20, down, 1);
        x.addPanel(1, 1, 0, 20, back, 1);
        x.addPanel(2, 1, 0, 20, up, 1);
        Boundary.only(x, 1);
        return x;
    }

    private static void crossIs(String what, DieLineChecker x, int amount) {
        is(what, x.crossings(14), amount > 0 ? 1 : 0);
        is(what + ": findings", x.findingCount(), amount > 0 ? 1 : 0);
        is(what + ": amount", x.finding(0, 4), amount > 0 ? amount : BAD);
    }

    private static void termsCrossingMoreThanTheToleranceInside() {
        // The tolerance is 1; the plane of the base is at z 0, panel 3 goes from -down to up - down.
        crossIs("lower end 2 below", spiral(2, 10, 12), 20);
        crossIs("lower end 1 below", spiral(1, 10, 12), 0);
        crossIs("upper end 2 above", spiral(5, 10, 7), 20);
        crossIs("upper end 1 above", spiral(5, 10, 6), 0);
        // The plane of panel 3 is at x 70 - back, and the base goes from 50 to 70.
        crossIs("2 inside the east", spiral(5, 2, 12), 20);
        crossIs("1 inside the east", spiral(5, 1, 12), 0);
        crossIs("2 inside the west", spiral(5, 18, 12), 20);
        crossIs("1 inside the west", spiral(5, 19, 12), 0);
    }

    private static void termsAFoldThatIsNotMadeHasTheAngle0() {
        DieLineChecker x = spiral(5, 10, 12);
        is("all folds", x.crossings(14), 1);
        is("without panel 1", x.crossings(12), 0);
        is("without panel 2", x.crossings(10), 0);
        is("without panel 3", x.crossings(6), 0);
        is("none", x.crossings(0), 0);
        x.setAngle(3, 0);
        is("panel 3 with the angle 0, made", x.crossings(14), 0);
    }

    private static void termsCrossingWithoutATolerance() {
        DieLineChecker x = spiral(1, 10, 12);
        x.setLimit(0, 0);
        crossIs("1 inside", x, 20);
        DieLineChecker y = spiral(5, 10, 5);
        y.setLimit(0, 0);
        crossIs("only touches", y, 0);
    }

    private static void termsCrossingWithTheGreatestTolerance() {
        DieLineChecker x = new DieLineChecker();
        x.setSheet(300, 300);
        x.setBase(10, 50, 60, 20);
        x.addPanel(0, 1, 0, 20, 21, 1);
        x.addPanel(1, 1, 0, 20, 30, 1);
        x.addPanel(2, 1, 0, 20, 42, 1);
        x.setLimit(0, 20);
        Boundary.only(x, 1);
        crossIs("21 inside", x, 20);
        x.setSize(3, 2, 41);
        crossIs("20 inside", x, 0);
    }

    private static void termsCrossingNeedsACommonPart() {
        // Panel 2 goes east below the base from x 90 to 130, through panel 3, which hangs down at x 110.
        DieLineChecker x = based(90, 90, 20, 20);
        x.addPanel(0, 3, 0, 20, 20, 1);
        x.addPanel(1, 3, 0, 10, 40, 1);
        x.addPanel(0, 1, 10, 10, 30, 1);
        Boundary.only(x, 1);
        crossIs("they only touch", x, 0);
        x.setSize(3, 0, 9);
        crossIs("1 in common", x, 1);
        Boundary.finding("1 in common", x, 0, 1, 2, NONE, 3, 1, 1);
    }

    private static void termsDoubledWithinTheTolerance() {
        // Panel 4 lies below the base, at a distance of 20 minus the depth of panel 3.
        for (int distance = 0; distance <= 3; distance++) {
            DieLineChecker x = based(40, 60, 30, 50);
            x.addPanel(0, 1, 0, 50, 20, 1);
            x.addPanel(1, 1, 0, 50, 30, 1);
            x.addPanel(2, 1, 0, 50, 20 - distance, 1);
            x.addPanel(3, 1, 10, 20, 8, 1);
            Boundary.only(x, 2);
            for (int tolerance = 0; tolerance <= 3; tolerance++) {
                x.setLimit(0, tolerance);
                is("distance " + distance + ", tolerance " + tolerance, x.totalCost(), distance <= tolerance ? 160 : 0);
            }
        }
    }

    private static void termsDoubledNeedsCommonParts() {
        // Panel 1 lies on the base at x 60 to 70, y 50 to 55; panel 2 at x 50 and up.
        DieLineChecker x = based(50, 50, 20, 20);
        x.addPanel(0, 1, 0, 5, 10, 2);
        x.addPanel(0, 3, 5, 15, 15, 2);
        Boundary.only(x, 2);
        is("both on the base alone", x.findingCount(), 2);
        x.setSize(2, 0, 4);
        is("1 by 5 in common", x.findingCount(), 3);
        Boundary.finding("1 by 5", x, 2, 2, 1, NONE, 2, 5, 5);
        x.setSize(2, 2, 11);
        Boundary.finding("1 by 1", x, 2, 2, 1, NONE, 2, 1, 1);
        x.setSize(2, 2, 10);
        is("1 by 0", x.findingCount(), 2);
    }

    /** Panels at the north and the east side hang down, and lack some units at the corner. */
    private static DieLineChecker corner(int lackOfNorth, int lackOfEast, int tolerance) {
        DieLineChecker x = based(50, 60, 20, 30);
        x.addPanel(0, 2, 0, 20 - lackOfNorth, 12, 1);
        x.addPanel(0, 1, 0, 30 - lackOfEast, 11, 1);
        x.setLimit(0, tolerance);
        return x;
    }

    private static void termsSidesMeetWithinTheTolerance() {
        for (int tolerance = 0; tolerance <= 4; tolerance++) {
            for (int north = 0; north <= 5; north++) {
                for (int east = 0; east <= 5; east++) {
                    DieLineChecker x = corner(north, east, tolerance);
                    int seam = Boundary.seamOf(x, 1, 1, 2, 2);
                    boolean meet = north <= tolerance && east <= tolerance;
                    is("meets " + north + " " + east + " " + tolerance, seam != NONE ? 1 : 0, meet ? 1 : 0);
                    if (meet) {
                        is("gap", x.seam(seam, 5), Math.max(north, east));
                        is("length", x.seam(seam, 4), 11);
                        is("no fold", x.seam(seam, 6), 0);
                    }
                }
            }
        }
    }

    private static void termsSidesMeetAlongAtLeast1() {
        DieLineChecker x = based(50, 60, 20, 10);
        x.setLimit(0, 0);
        x.addPanel(0, 1, 0, 10, 1, 0);
        // The north sides of the base and of panel 1 lie on one line, and have a point in common.
        is("a point", x.seamCount(), 1);
        x.setAngle(1, 2);
        is("1 unit", x.seamCount(), 3);
        is("its length", x.seam(Boundary.seamOf(x, 0, 2, 1, 2), 4), 1);
    }

    private static void termsSeamsAreOrdered() {
        DieLineChecker x = new DieLineChecker();
        x.setBase(50, 60, 2, 2);
        x.addPanel(0, 1, 0, 2, 2, 2);
        x.addPanel(0, 2, 0, 2, 2, 2);
        x.addPanel(1, 2, 0, 2, 2, 1);
        x.setLimit(0, 2);
        int seams = x.seamCount();
        is("many seams", seams > 20 ? 1 : 0, 1);
        int before = -1;
        for (int k = 0; k < seams; k++) {
            int place = ((x.seam(k, 0) * 4 + x.seam(k, 1)) * 10 + x.seam(k, 2)) * 4 + x.seam(k, 3);
            is("seam " + k + " is behind the one before", place > before ? 1 : 0, 1);
            is("p is less than q", x.seam(k, 0) < x.seam(k, 2) ? 1 : 0, 1);
            before = place;
        }
    }

    private static void termsFoldsAreSeamsWithAnyTolerance() {
        for (int tolerance : new int[] {0, 1, 20}) {
            DieLineChecker x = Boundary.made(States.RICH);
            x.setLimit(0, tolerance);
            int folds = 0;
            for (int k = 0; k < x.seamCount() && k < 60; k++) {
                folds += x.seam(k, 6);
            }
            is("folds with the tolerance " + tolerance, folds, 4);
        }
    }

    private static void termsOpenLengthIsExtendedByTheTolerance() {
        // The fold is at 3 to 17 of the base's north side, which is 20 long.
        DieLineChecker x = based(50, 60, 20, 10);
        x.addPanel(0, 2, 3, 14, 5, 1);
        int[] open = {6, 4, 2, 0, 0};
        for (int tolerance = 0; tolerance <= 4; tolerance++) {
            x.setLimit(0, tolerance);
            is("tolerance " + tolerance, x.openLength(0, 2), open[tolerance]);
        }
        // Near an end the extension goes beyond the side, and counts only up to the end.
        x.setSize(1, 0, 1);
        x.setSize(1, 1, 4);
        int[] near = {16, 14, 13, 12, 11};
        for (int tolerance = 0; tolerance <= 4; tolerance++) {
            x.setLimit(0, tolerance);
            is("near the end, tolerance " + tolerance, x.openLength(0, 2), near[tolerance]);
        }
    }

    private static void termsExtendedSegmentsCountOnce() {
        // Folds at 0 to 5 and 8 to 13: with the tolerance 2 they overlap between 6 and 7.
        DieLineChecker x = based(50, 60, 20, 10);
        x.addPanel(0, 2, 0, 5, 9, 1);
        x.addPanel(0, 2, 8, 5, 9, -1);
        int[] open = {10, 7, 5};
        for (int tolerance = 0; tolerance <= 2; tolerance++) {
            x.setLimit(0, tolerance);
            is("tolerance " + tolerance, x.openLength(0, 2), open[tolerance]);
        }
    }

    private static void termsSegmentsInAnyOrder() {
        // Folds at 12 to 16, 0 to 3 and 6 to 9, in this order of the panels.
        DieLineChecker x = based(50, 60, 20, 10);
        x.addPanel(0, 2, 12, 4, 9, 1);
        x.addPanel(0, 2, 0, 3, 8, -1);
        x.addPanel(0, 2, 6, 3, 7, 2);
        int[] open = {10, 5, 2};
        for (int tolerance = 0; tolerance <= 2; tolerance++) {
            x.setLimit(0, tolerance);
            is("tolerance " + tolerance, x.openLength(0, 2), open[tolerance]);
        }
    }
}
