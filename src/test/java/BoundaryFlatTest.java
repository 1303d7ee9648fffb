/** The boundary cases of promises 23 to 27: the flat design. */
public final class BoundaryFlatTest {
    private static final int BAD = -1, STATE = -2;

    public static void main(String[] args) throws Exception {
        Boundary.runAll(BoundaryFlatTest.class);
    }

    private static void is(String call, long got, long want) {
        Boundary.is(call, got, want);
    }

    private static DieLineChecker based(int left, int low, int width, int height) {
        DieLineChecker x = new DieLineChecker();
        x.setSheet(300, 300);
        is("setBase", x.setBase(left, low, width, height), 0);
        return x;
    }

    // ---- promise 23

    private static void promise23Panel() {
        Boundary.range("panel", States.RICH, (x, v) -> x.flat(v, 0), 0, 60, 4, 80);
        Boundary.range("panel of ten", States.TEN_PANELS, (x, v) -> x.flat(v, 0), 0, 20, 9, 110);
        Boundary.refused("no panels at all", Boundary.NOTHING, x -> x.flat(0, 0), BAD);
        DieLineChecker x = Boundary.made(States.RICH);
        x.removeLast();
        is("a removed panel", x.flat(4, 0), BAD);
        is("the last one", x.flat(3, 0), 90);
    }

    private static void promise23WhatFrom0To3() {
        Boundary.range("what", States.RICH, (x, v) -> x.flat(0, v), 0, 60, 3, 16);
    }

    // ---- promise 24

    private static void promise24NoPanels() {
        is("cutLength", new DieLineChecker().cutLength(), 0);
    }

    private static void promise24WithoutTheFolds() {
        DieLineChecker x = based(50, 50, 20, 10);
        is("base", x.cutLength(), 60);
        x.addPanel(0, 1, 0, 10, 5, 1);
        is("a whole side is a fold", x.cutLength(), 60 + 30 - 2 * 10);
        x.setAngle(1, 0);
        is("whatever its angle", x.cutLength(), 70);
        x.setSize(1, 1, 9);
        is("a fold but for 1", x.cutLength(), 60 + 28 - 2 * 9);
    }

    private static void promise24EachLineOnce() {
        DieLineChecker x = based(50, 50, 20, 10);
        x.addPanel(0, 2, 0, 9, 5, 1);
        x.addPanel(0, 2, 10, 10, 5, 1);
        is("a slit of 1", x.cutLength(), 60 + 28 - 18 + 30 - 20);
        x.setSize(1, 1, 10);
        is("a common line", x.cutLength(), 60 + 30 - 20 + 30 - 20 - 5);
        x.setSize(1, 2, 1);
        is("a common line of 1", x.cutLength(), 60 + 22 - 20 + 30 - 20 - 1);
    }

    private static void promise24OverlappingLinesOfThreePanels() {
        // Panel 3 comes back over the north side of panel 1, which has 9 units there.
        DieLineChecker x = based(50, 50, 20, 10);
        x.addPanel(0, 2, 0, 9, 5, 1);
        x.addPanel(0, 2, 10, 10, 9, 1);
        x.addPanel(2, 3, 5, 4, 10, 1);
        int alone = 60 + 28 - 18 + 38 - 20 + 28 - 8;
        is("9 units in common", x.cutLength(), alone - 9);
        x.setSize(1, 2, 4);
        x.setSize(3, 0, 4);
        is("9 units in common 1 lower", x.cutLength(), alone - 2 - 9);
        x.setSize(1, 2, 3);
        is("none in common", x.cutLength(), alone - 4);
    }

    // ---- promise 25

    private static void promise25NoFolds() {
        is("no panels", new DieLineChecker().creaseLength(), 0);
        is("base alone", based(50, 50, 20, 10).creaseLength(), 0);
        is("angles 0", Boundary.made(States.TEN_PANELS).creaseLength(), 0);
    }

    private static void promise25AnglesOtherThan0() {
        for (int angle = -1; angle <= 2; angle++) {
            DieLineChecker x = based(50, 50, 20, 10);
            x.addPanel(0, 1, 0, 7, 5, angle);
            is("angle " + angle, x.creaseLength(), angle == 0 ? 0 : 7);
        }
    }

    private static void promise25SmallestAndGreatestFold() {
        DieLineChecker x = based(0, 0, 300, 1);
        x.addPanel(0, 2, 0, 1, 1, 1);
        is("1", x.creaseLength(), 1);
        x.setSize(1, 1, 300);
        is("300", x.creaseLength(), 300);
    }

    // ---- promise 26

    private static void promise26AxisFrom0To1() {
        Boundary.range("axis", States.TEN_PANELS, (x, v) -> x.pitch(v, 0, false), 0, 100, 1, 8);
        Boundary.range("axis, turned", States.TEN_PANELS, (x, v) -> x.pitch(v, 0, true), 0, 100, 1, 8);
    }

    private static void promise26GapFrom0To50() {
        Boundary.range("gap", States.TEN_PANELS, (x, v) -> x.pitch(0, v, false), 0, 100, 50, 150);
        Boundary.range("gap, turned", States.TEN_PANELS, (x, v) -> x.pitch(1, v, true), 0, 8, 50, 58);
    }

    private static void promise26NoPanels() {
        Boundary.refused("pitch", Boundary.NOTHING, x -> x.pitch(0, 0, false), STATE);
        Boundary.refused("pitch, turned", Boundary.NOTHING, x -> x.pitch(1, 50, true), STATE);
    }

    private static void promise26BadBeforeState() {
        Boundary.refused("axis", Boundary.NOTHING, x -> x.pitch(2, 0, false), BAD);
        Boundary.refused("gap", Boundary.NOTHING, x -> x.pitch(0, 51, true), BAD);
    }

    private static void promise26AtLeast1() {
        DieLineChecker dot = based(10, 10, 1, 1);
        is("a dot", dot.pitch(0, 0, false), 1);
        is("a dot, turned", dot.pitch(1, 0, true), 1);
        // Each arm, 10 wide, must come off the base of the other one.
        DieLineChecker x = based(50, 50, 30, 10);
        x.addPanel(0, 2, 0, 10, 20, 1);
        is("an L turned", x.pitch(0, 0, true), 10);
        is("an L turned upward", x.pitch(1, 0, true), 10);
    }

    private static void promise26TheGreatestPitch() {
        DieLineChecker x = based(0, 0, 300, 300);
        is("the whole sheet", x.pitch(0, 0, false), 300);
        is("with a gap", x.pitch(0, 50, false), 350);
        is("upward", x.pitch(1, 50, false), 350);
        is("turned", x.pitch(0, 50, true), 350);
        is("turned upward", x.pitch(1, 49, true), 349);
    }

    private static void promise26TooNearInBothAxes() {
        // An L: the arm on the left reaches 20 above the base, which is 30 wide and 10 high.
        DieLineChecker x = based(50, 50, 30, 10);
        x.addPanel(0, 2, 0, 10, 20, 1);
        is("along x the bases lie behind each other", x.pitch(0, 3, false), 33);
        is("along y the arms do", x.pitch(1, 3, false), 33);
        // A hook: base 10 by 30, an arm to the right at the top. Upward a copy's arm needs room above the arm.
        DieLineChecker y = based(50, 50, 10, 30);
        y.addPanel(0, 1, 20, 10, 20, 1);
        is("along x", y.pitch(0, 0, false), 30);
        is("turned along x", y.pitch(0, 0, true), 20 - 10);
        // Turned, the copy's arm lies at the bottom, 20 below its own place: they are 10 apart.
        is("turned along x with the gap 10", y.pitch(0, 10, true), 20);
        is("turned along x with the gap 11", y.pitch(0, 11, true), 41);
    }

    private static void promise26AShiftBeforeAnotherThatIsTaken() {
        // A wave: panel 0 at x 20 to 22 and y 40 to 50, 2 at x 23 to 24 and y 29 to 49, 4 at x 28 to 29 and y 30 to 41,
        // and rows from x 20 to 24 above and from 23 to 29 below. The shifts 1 to 5 are taken, by the row below;
        // 7 and 8 are taken, by panel 4 on panel 0; 6 is free, and so are 12 and all further ones.
        DieLineChecker x = based(20, 40, 2, 10);
        x.addPanel(0, 1, 9, 1, 2, 0);
        x.addPanel(1, 0, 1, 1, 20, 0);
        x.addPanel(2, 1, 0, 1, 5, 0);
        x.addPanel(3, 2, 4, 1, 11, 0);
        is("panels", x.count(0), 5);
        is("6", x.pitch(0, 0, false), 6);
        // With the gap 1 the row below takes up to 6, and panel 4 from 6 on, up to 9.
        is("with a gap", x.pitch(0, 1, false), 10);
        is("6 in a row", x.rowCount(0, 0), 1 + (300 - 9) / 6);
        // When panel 4 ends where panel 0 begins, they are never too near.
        x.setSize(4, 2, 10);
        is("6 as before", x.pitch(0, 0, false), 6);
    }

    private static void promise26OneTurnedCopyOnly() {
        // The base at x 50 to 54 and y 50 to 55, panel 1 at x 41 to 50 and y 53 to 54, panel 2 at x 43 to 45 and
        // y 48 to 53. Turned, the base is at x 41 to 45 and y 48 to 53, panel 2 at x 50 to 52 and y 50 to 55: the
        // shifts 1 to 3 and 6 to 12 are taken. That 8 is taken does not matter, as there is only one copy.
        DieLineChecker x = based(50, 50, 4, 5);
        x.addPanel(0, 3, 3, 1, 9, 0);
        x.addPanel(1, 0, 2, 2, 5, 0);
        is("panels", x.count(0), 3);
        is("turned", x.pitch(0, 0, true), 4);
        is("not turned", x.pitch(0, 0, false), 13);
        // With the gap 1 also 4 and 5 are taken, up to 13.
        is("turned, with a gap", x.pitch(0, 1, true), 14);
    }

    // ---- promise 27

    private static void promise27AxisFrom0To1() {
        Boundary.range("axis", States.TEN_PANELS, (x, v) -> x.rowCount(v, 0), 0, 2, 1, 25);
    }

    private static void promise27GapFrom0To50() {
        Boundary.range("gap", States.TEN_PANELS, (x, v) -> x.rowCount(1, v), 0, 25, 50, 4);
    }

    private static void promise27NoPanels() {
        Boundary.refused("rowCount", Boundary.NOTHING, x -> x.rowCount(0, 0), STATE);
        Boundary.refused("axis", Boundary.NOTHING, x -> x.rowCount(-1, 0), BAD);
        Boundary.refused("gap", Boundary.NOTHING, x -> x.rowCount(0, -1), BAD);
    }

    private static void promise27OnePitchMore() {
        DieLineChecker x = based(0, 0, 50, 40);
        // 300 - 50 = 250 has five pitches of 50; with the gap 1 only four of 51.
        is("exactly", x.rowCount(0, 0), 6);
        is("1 too little", x.rowCount(0, 1), 5);
        is("5 * 52 is 10 too much", x.rowCount(0, 2), 5);
        // 300 - 40 = 260 has four pitches of 65, but not of 66.
        is("exactly upward", x.rowCount(1, 25), 5);
        is("1 too little upward", x.rowCount(1, 26), 4);
    }

    private static void promise27AtLeastOne() {
        DieLineChecker x = based(0, 0, 300, 300);
        is("the whole sheet", x.rowCount(0, 0), 1);
        DieLineChecker y = based(0, 0, 150, 151);
        is("half of it", y.rowCount(0, 0), 2);
        is("half of it with a gap", y.rowCount(0, 1), 1);
        is("1 more than half of it", y.rowCount(1, 0), 1);
    }

    private static void promise27TheExtentOfTheSheetOnThisAxis() {
        DieLineChecker x = new DieLineChecker();
        x.setSheet(100, 60);
        x.setBase(0, 0, 10, 10);
        is("along x", x.rowCount(0, 0), 10);
        is("along y", x.rowCount(1, 0), 6);
        x.setSheet(99, 59);
        is("1 less along x", x.rowCount(0, 0), 9);
        is("1 less along y", x.rowCount(1, 0), 5);
    }

    private static void promise27TheExtentOfAllPanels() {
        // Panel 1 lies left of the base: both together go from x 20 to 40; the pitch is 20.
        DieLineChecker x = based(30, 30, 10, 10);
        x.addPanel(0, 3, 0, 10, 10, 1);
        is("20 of 300", x.rowCount(0, 0), 15);
        x.setSheet(299, 300);
        is("20 of 299", x.rowCount(0, 0), 14);
    }

    private static void promise27TheGreatestNumber() {
        DieLineChecker x = based(299, 299, 1, 1);
        is("dots", x.rowCount(0, 0), 300);
        is("dots upward", x.rowCount(1, 0), 300);
    }
}
