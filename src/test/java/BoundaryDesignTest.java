/** The boundary cases of promises 6 to 15, and of what "Terms" says about sheets, panels, flaps and images. */
public final class BoundaryDesignTest {
    private static final int BAD = -1, STATE = -2, FULL = -3, CLASH = -4, NONE = -9;

    public static void main(String[] args) throws Exception {
        Boundary.runAll(BoundaryDesignTest.class);
    }

    private static void is(String call, long got, long want) {
        Boundary.is(call, got, want);
    }

    private static void flatIs(DieLineChecker x, int panel, int... values) {
        for (int what = 0; what < 4; what++) {
            is("flat(" + panel + ", " + what + ")", x.flat(panel, what), values[what]);
        }
    }

    private static Boundary.Setup based(int left, int low, int width, int height) {
        return x -> x.setBase(left, low, width, height);
    }

    private static Boundary.Setup then(Boundary.Setup first, Boundary.Setup second) {
        return x -> {
            first.on(x);
            second.on(x);
        };
    }

    // ---- promise 6

    private static void promise6WidthFrom20To300() {
        Boundary.range("width", States.SMALL, (x, v) -> x.setSheet(v, 100), 20, 200, 300, 200);
        DieLineChecker x = new DieLineChecker();
        x.setSheet(20, 100);
        is("width 20 is set", x.setSheet(300, 100), 20);
        is("width 300 is set", x.setSheet(100, 100), 300);
    }

    private static void promise6HeightFrom20To300() {
        Boundary.range("height", States.SMALL, (x, v) -> x.setSheet(100, v), 20, 200, 300, 200);
        DieLineChecker x = new DieLineChecker();
        x.setSheet(100, 20);
        is("height 20 is set", x.setBase(0, 0, 1, 20), 0);
        is("and no more", x.setBase(0, 0, 1, 21), CLASH);
        x.setSheet(100, 300);
        is("height 300 is set", x.setBase(0, 0, 1, 300), 1);
    }

    private static void promise6PanelsMayTouchTheBorder() {
        Boundary.Setup base = based(60, 50, 30, 20);
        Boundary.taken("as wide as the base reaches", base, x -> x.setSheet(90, 200), 200);
        Boundary.refused("1 narrower", base, x -> x.setSheet(89, 200), CLASH);
        Boundary.taken("as high as the base reaches", base, x -> x.setSheet(200, 70), 200);
        Boundary.refused("1 lower", base, x -> x.setSheet(200, 69), CLASH);
        // RICH reaches to x 110 with panel 3, and to y 86 with panel 2.
        Boundary.taken("as wide as the panels reach", States.RICH, x -> x.setSheet(110, 86), 210);
        Boundary.refused("narrower than panel 3", States.RICH, x -> x.setSheet(109, 86), CLASH);
        Boundary.refused("lower than panel 2", States.RICH, x -> x.setSheet(110, 85), CLASH);
    }

    private static void promise6BadBeforeClash() {
        Boundary.refused("19 by 85", States.RICH, x -> x.setSheet(19, 85), BAD);
        Boundary.refused("109 by 301", States.RICH, x -> x.setSheet(109, 301), BAD);
    }

    private static void promise6SettingTheSameIsAnAct() {
        DieLineChecker x = new DieLineChecker();
        is("the same", x.setSheet(200, 200), 200);
        is("acts", x.count(1), 1);
    }

    // ---- promise 7

    private static void promise7PositionFrom0To300() {
        Boundary.range("x", States.RICH, (x, v) -> x.setBase(v, 9, 9, 9), 0, 5, 300, CLASH);
        Boundary.range("y", States.RICH, (x, v) -> x.setBase(9, v, 9, 9), 0, 5, 300, CLASH);
        Boundary.Setup great = x -> x.setSheet(300, 300);
        Boundary.taken("the last place of the sheet", great, x -> x.setBase(299, 299, 1, 1), 0);
        Boundary.refused("x behind it", great, x -> x.setBase(300, 299, 1, 1), CLASH);
        Boundary.refused("y behind it", great, x -> x.setBase(299, 300, 1, 1), CLASH);
    }

    private static void promise7SizeFrom1To300() {
        Boundary.range("width", States.RICH, (x, v) -> x.setBase(0, 0, v, 9), 1, 5, 300, CLASH);
        Boundary.range("height", States.RICH, (x, v) -> x.setBase(0, 0, 9, v), 1, 5, 300, CLASH);
        Boundary.Setup great = x -> x.setSheet(300, 300);
        Boundary.range("width on a great sheet", great, (x, v) -> x.setBase(0, 0, v, 300), 1, 0, 300, 0);
        Boundary.range("height on a great sheet", great, (x, v) -> x.setBase(0, 0, 300, v), 1, 0, 300, 0);
    }

    private static void promise7WithinTheSheet() {
        // The sheet of RICH is 210 by 190.
        Boundary.taken("up to the corner", States.RICH, x -> x.setBase(200, 180, 10, 10), 5);
        Boundary.refused("1 too wide", States.RICH, x -> x.setBase(200, 180, 11, 10), CLASH);
        Boundary.refused("1 too high", States.RICH, x -> x.setBase(200, 180, 10, 11), CLASH);
        Boundary.refused("1 too far right", States.RICH, x -> x.setBase(201, 180, 10, 10), CLASH);
        Boundary.refused("1 too far up", States.RICH, x -> x.setBase(200, 181, 10, 10), CLASH);
    }

    private static void promise7BadBeforeClash() {
        Boundary.refused("too high and beyond", States.RICH, x -> x.setBase(210, 0, 9, 301), BAD);
        Boundary.refused("great sums", States.RICH,
            x -> x.setBase(Integer.MAX_VALUE, 0, Integer.MAX_VALUE, 9), BAD);
    }

    private static void promise7HowManyWereRemoved() {
        Boundary.taken("none", Boundary.NOTHING, x -> x.setBase(0, 0, 9, 9), 0);
        Boundary.taken("one", based(1, 1, 5, 5), x -> x.setBase(0, 0, 9, 9), 1);
        Boundary.taken("ten", States.TEN_PANELS, x -> x.setBase(0, 0, 9, 9), 10);
    }

    private static void promise7WithoutAnImage() {
        DieLineChecker x = Boundary.made(States.RICH);
        is("image before", x.imageAt(0, 0, 0, 0), 5);
        is("setBase", x.setBase(0, 0, 9, 9), 5);
        is("no image", x.imageAt(0, 0, 0, 0), NONE);
        is("images stay defined", x.count(6), 2);
        is("panels", x.count(0), 1);
        is("flaps", x.count(5), 0);
    }

    // ---- promise 8

    private static void promise8Parent() {
        Boundary.range("parent", States.RICH, (x, v) -> x.addPanel(v, 0, 0, 1, 1, 1), 0, 5, 4, 5);
        Boundary.refused("no panels at all", Boundary.NOTHING, x -> x.addPanel(0, 0, 0, 1, 1, 1), BAD);
    }

    private static void promise8SideFrom0To3() {
        Boundary.range("side", States.RICH, (x, v) -> x.addPanel(0, v, 0, 1, 1, 1), 0, 5, 3, 5);
    }

    private static void promise8OffsetFrom0To300() {
        Boundary.range("offset", States.RICH, (x, v) -> x.addPanel(0, 0, v, 1, 1, 1), 0, 5, 300, CLASH);
        Boundary.Setup wide = x -> {
            x.setSheet(300, 300);
            x.setBase(0, 0, 300, 1);
        };
        Boundary.taken("the last place of the longest side", wide, x -> x.addPanel(0, 2, 299, 1, 1, 0), 1);
        Boundary.refused("behind it", wide, x -> x.addPanel(0, 2, 300, 1, 1, 0), CLASH);
    }

    private static void promise8LengthFrom1To300() {
        Boundary.range("length", States.RICH, (x, v) -> x.addPanel(0, 0, 0, v, 1, 1), 1, 5, 300, CLASH);
        Boundary.Setup wide = x -> {
            x.setSheet(300, 300);
            x.setBase(0, 0, 300, 1);
        };
        Boundary.range("length on the longest side", wide, (x, v) -> x.addPanel(0, 2, 0, v, 1, 0), 1, 1, 300, 1);
    }

    private static void promise8DepthFrom1To300() {
        Boundary.range("depth", States.RICH, (x, v) -> x.addPanel(0, 0, 0, 1, v, 1), 1, 5, 300, CLASH);
        Boundary.Setup wide = x -> {
            x.setSheet(300, 300);
            x.setBase(0, 0, 300, 1);
        };
        Boundary.taken("to the end of the greatest sheet", wide, x -> x.addPanel(0, 2, 0, 9, 299, 0), 1);
        Boundary.refused("1 beyond", wide, x -> x.addPanel(0, 2, 0, 9, 300, 0), CLASH);
    }

    private static void promise8AngleFromMinus1To2() {
        Boundary.range("angle", States.RICH, (x, v) -> x.addPanel(0, 0, 0, 1, 1, v), -1, 5, 2, 5);
    }

    private static void promise8FullWithTenPanels() {
        DieLineChecker x = new DieLineChecker();
        x.setBase(20, 30, 10, 8);
        for (int p = 1; p < 10; p++) {
            is("panel " + p, x.addPanel(p - 1, 1, 0, 8, 10, 0), p);
        }
        is("panels", x.count(0), 10);
        Boundary.refused("panel 10", States.TEN_PANELS, y -> y.addPanel(9, 1, 0, 8, 10, 0), FULL);
    }

    private static void promise8BadBeforeFull() {
        Boundary.refused("no parent", States.TEN_PANELS, x -> x.addPanel(10, 1, 0, 8, 10, 0), BAD);
        Boundary.refused("no side", States.TEN_PANELS, x -> x.addPanel(9, 4, 0, 8, 10, 0), BAD);
        Boundary.refused("no angle", States.TEN_PANELS, x -> x.addPanel(9, 1, 0, 8, 10, 3), BAD);
    }

    private static void promise8FullBeforeClash() {
        Boundary.refused("too long", States.TEN_PANELS, x -> x.addPanel(9, 1, 0, 9, 10, 0), FULL);
        Boundary.refused("on another panel", States.TEN_PANELS, x -> x.addPanel(0, 1, 0, 8, 10, 0), FULL);
    }

    private static void promise8BadBeforeClash() {
        Boundary.refused("too long and no angle", States.RICH, x -> x.addPanel(0, 0, 0, 300, 1, -2), BAD);
    }

    private static void promise8RoomAgainAfterRemoveLast() {
        DieLineChecker x = Boundary.made(States.TEN_PANELS);
        is("removeLast", x.removeLast(), 9);
        is("addPanel", x.addPanel(8, 1, 0, 8, 10, 0), 9);
        is("addPanel once more", x.addPanel(9, 1, 0, 8, 10, 0), FULL);
    }

    private static void promise8NoFlapAndNoImage() {
        DieLineChecker x = Boundary.made(States.RICH);
        is("removeLast", x.removeLast(), 4);
        // The new panel takes the number of one that was a flap with an image.
        is("addPanel", x.addPanel(2, 1, 2, 6, 5, -1), 4);
        is("flaps", x.count(5), 0);
        is("image", x.imageAt(4, 0, 0, 0), NONE);
    }

    // ---- promise 9

    private static void promise9NoPanels() {
        Boundary.refused("removeLast", Boundary.NOTHING, x -> x.removeLast(), STATE);
        Boundary.refused("after the base", x -> {
            x.setBase(1, 1, 5, 5);
            x.removeLast();
        }, x -> x.removeLast(), STATE);
    }

    private static void promise9TheBaseIfThereIsNoOther() {
        Boundary.taken("base", based(1, 1, 5, 5), x -> x.removeLast(), 0);
        Boundary.taken("the tenth panel", States.TEN_PANELS, x -> x.removeLast(), 9);
    }

    private static void promise9TheTargetOfAFlap() {
        Boundary.Setup target = then(States.RICH, x -> x.setFlap(2, 4));
        Boundary.refused("a target", target, x -> x.removeLast(), STATE);
        Boundary.taken("no target any more", then(target, x -> x.setFlap(2, NONE)), x -> x.removeLast(), 4);
        Boundary.taken("another target", then(target, x -> x.setFlap(2, 3)), x -> x.removeLast(), 4);
        Boundary.taken("a flap itself", States.RICH, x -> x.removeLast(), 4);
        // Of two flaps with this target one is enough.
        Boundary.refused("one of two is left", then(target, x -> {
            x.setFlap(1, 4);
            x.setFlap(1, NONE);
        }), x -> x.removeLast(), STATE);
    }

    private static void promise9NothingOfItIsLeft() {
        // As many acts on both, so that the same number can be undone.
        Boundary.same("a removed flap with an image", x -> {
            States.SMALL.on(x);
            x.addPanel(0, 0, 0, 5, 3, 2);
            x.setFlap(3, 0);
            x.place(3, 1, 0, -1, -1);
            x.removeLast();
        }, x -> {
            States.SMALL.on(x);
            for (int i = 0; i < 4; i++) {
                x.setLimit(0, 1);
            }
        }, Later.QUERIES);
        Boundary.same("an undone flap with an image", x -> {
            States.SMALL.on(x);
            x.addPanel(0, 0, 0, 5, 3, 2);
            x.setFlap(3, 0);
            x.place(3, 1, 0, -1, -1);
            x.undo();
            x.undo();
            x.undo();
        }, States.SMALL, Later.RUNS.size());
    }

    // ---- promise 10

    private static void promise10PanelOtherThanTheBase() {
        Boundary.range("panel", States.RICH, (x, v) -> x.setAngle(v, 2), 1, 1, 4, -1);
        Boundary.refused("no panels at all", Boundary.NOTHING, x -> x.setAngle(1, 0), BAD);
    }

    private static void promise10AngleFromMinus1To2() {
        Boundary.range("angle", States.RICH, (x, v) -> x.setAngle(3, v), -1, 1, 2, 1);
        DieLineChecker x = Boundary.made(States.RICH);
        for (int angle = -1; angle <= 2; angle++) {
            x.setAngle(3, angle);
            is("angle " + angle + " is set", x.setAngle(3, angle), angle);
        }
    }

    // ---- promise 11

    private static void promise11PanelOtherThanTheBase() {
        Boundary.range("panel", States.RICH, (x, v) -> x.setSize(v, 2, 10), 1, 10, 4, 5);
    }

    private static void promise11WhatFrom0To2() {
        Boundary.range("what", States.RICH, (x, v) -> x.setSize(4, v, 1), 0, 2, 2, 5);
        Boundary.taken("what 1", States.RICH, x -> x.setSize(4, 1, 1), 6);
    }

    private static void promise11OffsetFrom0To300() {
        Boundary.range("offset", States.RICH, (x, v) -> x.setSize(4, 0, v), 0, 2, 300, CLASH);
    }

    private static void promise11LengthFrom1To300() {
        Boundary.range("length", States.RICH, (x, v) -> x.setSize(4, 1, v), 1, 6, 300, CLASH);
        Boundary.Setup wide = x -> {
            x.setSheet(300, 300);
            x.setBase(0, 0, 300, 1);
            x.addPanel(0, 2, 0, 7, 9, 1);
        };
        Boundary.range("length on the longest side", wide, (x, v) -> x.setSize(1, 1, v), 1, 7, 300, 7);
    }

    private static void promise11DepthFrom1To300() {
        Boundary.range("depth", States.RICH, (x, v) -> x.setSize(4, 2, v), 1, 5, 300, CLASH);
        Boundary.Setup wide = x -> {
            x.setSheet(300, 300);
            x.setBase(0, 0, 300, 1);
            x.addPanel(0, 2, 0, 7, 9, 1);
        };
        Boundary.taken("to the end of the greatest sheet", wide, x -> x.setSize(1, 2, 299), 9);
        Boundary.refused("1 beyond", wide, x -> x.setSize(1, 2, 300), CLASH);
    }

    private static void promise11SmallestValues() {
        DieLineChecker x = Boundary.made(States.RICH);
        is("offset 0", x.setSize(4, 0, 0), 2);
        is("length 1", x.setSize(4, 1, 1), 6);
        is("depth 1", x.setSize(4, 2, 1), 5);
        flatIs(x, 4, 80, 76, 1, 1);
        is("offset is 0", x.setSize(4, 0, 3), 0);
        is("length is 1", x.setSize(4, 1, 3), 1);
        is("depth is 1", x.setSize(4, 2, 3), 1);
    }

    private static void promise11OffsetPlusLengthWithinTheSide() {
        // Panel 4 has the offset 2 and the length 6, on a side of the length 10.
        Boundary.taken("offset 4", States.RICH, x -> x.setSize(4, 0, 4), 2);
        Boundary.refused("offset 5", States.RICH, x -> x.setSize(4, 0, 5), CLASH);
        Boundary.taken("length 8", States.RICH, x -> x.setSize(4, 1, 8), 6);
        Boundary.refused("length 9", States.RICH, x -> x.setSize(4, 1, 9), CLASH);
        Boundary.taken("depth 8 of its parent", States.RICH, x -> x.setSize(2, 2, 8), 10);
        Boundary.refused("depth 7 of its parent", States.RICH, x -> x.setSize(2, 2, 7), CLASH);
    }

    private static void promise11WithinTheSheet() {
        // Panel 2 begins at y 76 of 190; panel 3 moves along with panel 1, and ends at x 110 of 210.
        Boundary.taken("up to the border", States.RICH, x -> x.setSize(2, 2, 114), 10);
        Boundary.refused("1 beyond", States.RICH, x -> x.setSize(2, 2, 115), CLASH);
        Boundary.taken("panel 3 up to the border", States.RICH, x -> x.setSize(1, 2, 110), 10);
        Boundary.refused("panel 3 1 beyond", States.RICH, x -> x.setSize(1, 2, 111), CLASH);
    }

    private static void promise11NoCommonInteriorPoints() {
        // Panel 2 hangs on the west side of panel 1, which lies above the base: it comes down to panel 3's north side.
        Boundary.Setup near = x -> {
            x.setBase(50, 50, 20, 20);
            x.addPanel(0, 2, 0, 20, 10, 1);
            x.addPanel(0, 3, 0, 12, 10, 1);
            x.addPanel(1, 3, 5, 5, 6, 1);
        };
        // Panel 3 is at x 44 to 50 and y 75 to 80; panel 2 at x 40 to 50 and y 50 to 62.
        Boundary.taken("offset 0 of panel 3", near, x -> x.setSize(3, 0, 0), 5);
        Boundary.taken("panel 2 up to y 70", near, x -> x.setSize(2, 1, 20), 12);
        Boundary.Setup lower = then(near, x -> x.setSize(3, 0, 0));
        Boundary.taken("panel 2 touches panel 3", lower, x -> x.setSize(2, 1, 20), 12);
        Boundary.Setup beside = x -> {
            x.setBase(50, 50, 20, 20);
            x.addPanel(0, 2, 0, 8, 10, 1);
            x.addPanel(0, 2, 12, 8, 10, 1);
        };
        Boundary.taken("length up to the other panel", beside, x -> x.setSize(1, 1, 12), 8);
        Boundary.refused("1 into it", beside, x -> x.setSize(1, 1, 13), CLASH);
        Boundary.taken("offset up to the other panel", beside, x -> x.setSize(2, 0, 8), 12);
        Boundary.refused("offset 1 into it", beside, x -> x.setSize(2, 0, 7), CLASH);
    }

    private static void promise11PanelsMoveAlong() {
        DieLineChecker x = Boundary.made(States.RICH);
        flatIs(x, 3, 90, 60, 20, 16);
        is("depth of panel 1", x.setSize(1, 2, 11), 10);
        flatIs(x, 3, 91, 60, 20, 16);
        x.addPanel(3, 1, 0, 16, 5, 1);
        flatIs(x, 5, 111, 60, 5, 16);
        is("depth of panel 1 again", x.setSize(1, 2, 1), 11);
        flatIs(x, 3, 81, 60, 20, 16);
        flatIs(x, 5, 101, 60, 5, 16);
        flatIs(x, 2, 60, 76, 20, 10);
    }

    private static void promise11BadBeforeClash() {
        Boundary.refused("301", States.RICH, x -> x.setSize(4, 1, 301), BAD);
        Boundary.refused("no panel", States.RICH, x -> x.setSize(5, 1, 300), BAD);
    }

    // ---- promise 12

    private static void promise12PanelOtherThanTheBase() {
        Boundary.range("panel", States.RICH, (x, v) -> x.setFlap(v, NONE), 1, NONE, 4, 1);
        Boundary.refused("the base with a target", States.RICH, x -> x.setFlap(0, 1), BAD);
    }

    private static void promise12TargetIsAnotherPanel() {
        Boundary.range("target", States.RICH, (x, v) -> x.setFlap(4, v), 0, 1, 3, 1);
        Boundary.refused("itself", States.RICH, x -> x.setFlap(4, 4), BAD);
        Boundary.refused("itself, in the middle", States.RICH, x -> x.setFlap(2, 2), BAD);
        Boundary.taken("the one before", States.RICH, x -> x.setFlap(2, 1), NONE);
        Boundary.taken("the one behind", States.RICH, x -> x.setFlap(2, 3), NONE);
        Boundary.taken("the last one", States.RICH, x -> x.setFlap(2, 4), NONE);
        Boundary.refused("behind the last one", States.RICH, x -> x.setFlap(2, 5), BAD);
    }

    private static void promise12TargetNone() {
        Boundary.taken("NONE", States.RICH, x -> x.setFlap(4, -9), 1);
        Boundary.refused("-8", States.RICH, x -> x.setFlap(4, -8), BAD);
        Boundary.refused("-10", States.RICH, x -> x.setFlap(4, -10), BAD);
        Boundary.taken("no flap before", States.RICH, x -> x.setFlap(1, -9), NONE);
    }

    // ---- promise 13

    private static void promise13ImageFrom0To3() {
        Boundary.range("image", States.RICH, (x, v) -> x.defineImage(v, 5, 5), 0, 1, 3, 0);
        DieLineChecker x = new DieLineChecker();
        for (int image = 0; image < 4; image++) {
            is("image " + image, x.defineImage(image, 1, 200), 0);
            is("image " + image + " again", x.defineImage(image, 200, 1), 1);
        }
        is("images", x.count(6), 4);
    }

    private static void promise13SizeFrom1To200() {
        Boundary.range("width", States.RICH, (x, v) -> x.defineImage(0, v, 5), 1, 1, 200, 1);
        Boundary.range("height", States.RICH, (x, v) -> x.defineImage(0, 5, v), 1, 1, 200, 1);
        Boundary.range("width of a new one", States.RICH, (x, v) -> x.defineImage(1, v, 5), 1, 0, 200, 0);
    }

    private static void promise13PlacementsStay() {
        DieLineChecker x = Boundary.made(States.RICH);
        is("reach before", x.reach(0, 1), 35);
        is("defineImage", x.defineImage(0, 25, 50), 1);
        is("reach 0", x.reach(0, 1), 0);
        is("u", x.imageAt(0, 0, 0, 0), 5);
        is("defineImage smaller", x.defineImage(0, 24, 50), 1);
        is("no reach", x.reach(0, 1), NONE);
    }

    // ---- promise 14

    private static void promise14Panel() {
        Boundary.range("panel", States.RICH, (x, v) -> x.place(v, 0, 0, 0, 0), 0, 0, 4, 2);
    }

    private static void promise14ImageFrom0To3() {
        Boundary.range("image", States.SMALL, (x, v) -> x.place(1, v, 0, 0, 0), 0, 3, 3, 3);
    }

    private static void promise14OrientationFrom0To7() {
        Boundary.range("orientation", States.RICH, (x, v) -> x.place(0, 2, v, 0, 0), 0, 0, 7, 0);
    }

    private static void promise14PositionFromMinus300To300() {
        Boundary.range("px", States.RICH, (x, v) -> x.place(0, 2, 0, v, 0), -300, 0, 300, 0);
        Boundary.range("py", States.RICH, (x, v) -> x.place(0, 2, 0, 0, v), -300, 0, 300, 0);
        DieLineChecker x = Boundary.made(States.RICH);
        x.place(0, 2, 0, -300, 300);
        is("u", x.imageAt(0, 0, 0, 0), 300);
        is("v", x.imageAt(0, 0, 0, 1), -300);
    }

    private static void promise14TheImageIsNotDefined() {
        Boundary.refused("image 1", States.RICH, x -> x.place(0, 1, 0, 0, 0), STATE);
        Boundary.refused("image 3", States.RICH, x -> x.place(0, 3, 0, 0, 0), STATE);
        Boundary.taken("image 3 defined", then(States.RICH, x -> x.defineImage(3, 1, 1)),
            x -> x.place(0, 3, 0, 0, 0), 0);
    }

    private static void promise14BadBeforeState() {
        Boundary.refused("no panel", States.RICH, x -> x.place(5, 1, 0, 0, 0), BAD);
        Boundary.refused("no orientation", States.RICH, x -> x.place(0, 1, 8, 0, 0), BAD);
        Boundary.refused("no position", States.RICH, x -> x.place(0, 1, 0, 0, 301), BAD);
    }

    private static void promise14TheImageBefore() {
        Boundary.taken("none", States.RICH, x -> x.place(1, 2, 0, 0, 0), NONE);
        Boundary.taken("another one", States.RICH, x -> x.place(0, 2, 0, 0, 0), 0);
        Boundary.taken("the same one", States.RICH, x -> x.place(4, 2, 3, -1, 1), 2);
    }

    // ---- promise 15

    private static void promise15Panel() {
        Boundary.range("panel", States.RICH, (x, v) -> x.clearImage(v), 0, 0, 4, 2);
        Boundary.refused("no panels at all", Boundary.NOTHING, x -> x.clearImage(0), BAD);
    }

    private static void promise15NoImageIsPlaced() {
        Boundary.refused("panel 1", States.RICH, x -> x.clearImage(1), STATE);
        Boundary.refused("twice", then(States.RICH, x -> x.clearImage(0)), x -> x.clearImage(0), STATE);
    }

    private static void promise15TheImageNeedNotBeShown() {
        Boundary.taken("beside the panel", then(States.RICH, x -> x.place(1, 2, 0, 300, 300)), x -> x.clearImage(1), 2);
    }

    // ---- the section "Terms"

    private static void termsSheetFrom20To300() {
        DieLineChecker x = new DieLineChecker();
        x.setSheet(20, 20);
        is("20 by 20", x.setBase(0, 0, 20, 20), 0);
        is("21 by 20", x.setBase(0, 0, 21, 20), CLASH);
        is("20 by 21", x.setBase(0, 0, 20, 21), CLASH);
        is("300 by 300", x.setSheet(300, 300), 20);
        is("the whole sheet", x.setBase(0, 0, 300, 300), 1);
        is("1 to the right", x.setBase(1, 0, 300, 300), CLASH);
        is("1 up", x.setBase(0, 1, 300, 300), CLASH);
    }

    private static void termsPlacesOnSides() {
        // Offset 0 is the left or the lower end; offset + length can be the whole side.
        Boundary.Setup base = based(50, 60, 20, 10);
        int[][] first = {{50, 57, 1, 3}, {70, 60, 3, 1}, {50, 70, 1, 3}, {47, 60, 3, 1}};
        int[][] last = {{69, 57, 1, 3}, {70, 69, 3, 1}, {69, 70, 1, 3}, {47, 69, 3, 1}};
        for (int side = 0; side < 4; side++) {
            int length = side % 2 == 0 ? 20 : 10;
            int which = side;
            DieLineChecker x = Boundary.made(base);
            is("first place of side " + side, x.addPanel(0, side, 0, 1, 3, 1), 1);
            flatIs(x, 1, first[side]);
            is("last place of side " + side, x.addPanel(0, side, length - 1, 1, 3, 1), 2);
            flatIs(x, 2, last[side]);
            Boundary.refused("behind side " + side, base, y -> y.addPanel(0, which, length, 1, 3, 1), CLASH);
            Boundary.taken("the whole side " + side, base, y -> y.addPanel(0, which, 0, length, 3, 1), 1);
            Boundary.refused("more than side " + side, base, y -> y.addPanel(0, which, 0, length + 1, 3, 1), CLASH);
            Boundary.refused("beyond side " + side, base, y -> y.addPanel(0, which, 1, length, 3, 1), CLASH);
        }
    }

    private static void termsPanelsTouchTheBorder() {
        // 50 units of the sheet on every side of the base.
        Boundary.Setup base = based(50, 50, 100, 100);
        for (int side = 0; side < 4; side++) {
            int which = side;
            Boundary.taken("up to the border at side " + side, base, x -> x.addPanel(0, which, 0, 9, 50, 1), 1);
            Boundary.refused("1 beyond the border at side " + side, base, x -> x.addPanel(0, which, 0, 9, 51, 1), CLASH);
        }
    }

    private static void termsPanelsTouchEachOther() {
        // Panel 2 hangs on the end of panel 1 and comes back beside the base: x 70 to 80, down to y 50.
        Boundary.Setup hook = x -> {
            x.setBase(50, 50, 20, 20);
            x.addPanel(0, 2, 0, 20, 10, 1);
            x.addPanel(1, 1, 0, 10, 10, 1);
        };
        Boundary.taken("touches the base with a side", hook, x -> x.addPanel(2, 0, 0, 10, 20, 1), 3);
        Boundary.taken("touches it with a corner", hook, x -> x.addPanel(0, 1, 0, 10, 5, 1), 3);
        Boundary.Setup both = then(hook, x -> x.addPanel(0, 1, 0, 10, 5, 1));
        // Panel 3 is at x 70 to 75 and y 50 to 60.
        Boundary.taken("down to panel 3", both, x -> x.addPanel(2, 0, 0, 10, 10, 1), 4);
        Boundary.refused("1 into panel 3", both, x -> x.addPanel(2, 0, 0, 10, 11, 1), CLASH);
        Boundary.taken("beside panel 3", both, x -> x.addPanel(2, 0, 5, 5, 20, 1), 4);
        Boundary.refused("1 over panel 3", both, x -> x.addPanel(2, 0, 4, 6, 20, 1), CLASH);
        // Panel 3 now comes down at x 75 to 80; a panel on its west side goes toward the base.
        Boundary.Setup around = then(hook, x -> x.addPanel(2, 0, 5, 5, 10, 1));
        Boundary.taken("up to the base", around, x -> x.addPanel(3, 3, 0, 5, 5, 1), 4);
        Boundary.refused("1 into the base", around, x -> x.addPanel(3, 3, 0, 5, 6, 1), CLASH);
    }

    private static void termsTheBaseIsNoFlap() {
        Boundary.refused("target 1", States.RICH, x -> x.setFlap(0, 1), BAD);
        Boundary.refused("target NONE", States.RICH, x -> x.setFlap(0, NONE), BAD);
    }

    private static void termsOneImageOnEachPanel() {
        DieLineChecker x = Boundary.made(States.SMALL);
        is("instead of image 3", x.place(1, 0, 0, 0, 0), 3);
        is("image 0 is there", x.clearImage(1), 0);
        is("and no other one", x.clearImage(1), STATE);
    }

    private static void termsRefusedCallsAreNoActs() {
        // With 12 acts one more would forget the oldest one.
        Boundary.refused("setSheet", States.TWELVE_ACTS, x -> x.setSheet(19, 20), BAD);
        Boundary.refused("setSheet", States.TWELVE_ACTS, x -> x.setSheet(20, 20), CLASH);
        Boundary.refused("setBase", States.TWELVE_ACTS, x -> x.setBase(300, 0, 1, 1), CLASH);
        Boundary.refused("addPanel", States.TWELVE_ACTS, x -> x.addPanel(0, 1, 0, 9, 9, 1), CLASH);
        Boundary.refused("addPanel", States.TWELVE_ACTS, x -> x.addPanel(5, 1, 0, 9, 9, 1), BAD);
        Boundary.refused("setAngle", States.TWELVE_ACTS, x -> x.setAngle(0, 1), BAD);
        Boundary.refused("setSize", States.TWELVE_ACTS, x -> x.setSize(1, 2, 300), CLASH);
        Boundary.refused("setSize", States.TWELVE_ACTS, x -> x.setSize(1, 3, 3), BAD);
        Boundary.refused("setFlap", States.TWELVE_ACTS, x -> x.setFlap(1, 1), BAD);
        Boundary.refused("defineImage", States.TWELVE_ACTS, x -> x.defineImage(0, 0, 1), BAD);
        Boundary.refused("place", States.TWELVE_ACTS, x -> x.place(0, 1, 0, 0, 0), STATE);
        Boundary.refused("clearImage", States.TWELVE_ACTS, x -> x.clearImage(1), STATE);
        Boundary.refused("continueImage", States.TWELVE_ACTS, x -> x.continueImage(99, false), BAD);
        Boundary.refused("spreadImage", States.TWELVE_ACTS, x -> x.spreadImage(1), STATE);
        Boundary.refused("setLimit", States.TWELVE_ACTS, x -> x.setLimit(0, 21), BAD);
        Boundary.refused("setWeight", States.TWELVE_ACTS, x -> x.setWeight(0, 10), BAD);
        Boundary.refused("restore", States.TWELVE_ACTS, x -> x.restore(1), STATE);
        Boundary.refused("restore", States.TWELVE_ACTS, x -> x.restore(2), BAD);
        Boundary.refused("save", States.TWELVE_ACTS, x -> x.save(2), BAD);
        Boundary.refused("type", States.TWELVE_ACTS, x -> x.type(128), BAD);
    }

    private static void termsACallOf512() {
        DieLineChecker x = new DieLineChecker();
        for (int call = 1; call <= 500; call++) {
            int used = x.type(32);
            if (used == 160) {
                x.clearText();
                call++;
            }
        }
        // At most 501 calls have been made; these are the last ones.
        is("call 502", x.setBase(10, 10, 5, 7), 0);
        is("call 503", x.addPanel(0, 1, 0, 7, 4, 1), 1);
        is("call 504", x.count(0), 2);
        is("call 505", x.undo(), 1);
        is("call 506", x.totalCost(), 24);
        is("call 507", x.save(0), 1);
        is("call 508", x.restore(0), 1);
        is("call 509", x.seamCount(), 0);
        is("call 510", x.findingCount(), 4);
        is("call 511", x.count(1), 2);
        is("call 512", x.flat(0, 3), 7);
    }
}
