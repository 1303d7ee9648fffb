/** The boundary cases of promises 40 to 45, and of what "Terms" says about findings. */
public final class BoundaryFindingsTest {
    private static final int BAD = -1, NONE = -9;

    public static void main(String[] args) throws Exception {
        Boundary.runAll(BoundaryFindingsTest.class);
    }

    private static void is(String call, long got, long want) {
        Boundary.is(call, got, want);
    }

    private static DieLineChecker based(int left, int low, int width, int height) {
        DieLineChecker x = new DieLineChecker();
        is("setBase", x.setBase(left, low, width, height), 0);
        return x;
    }

    private static void none(String what, DieLineChecker x) {
        is(what, x.findingCount(), 0);
        is(what + ": cost", x.totalCost(), 0);
    }

    private static void one(String what, DieLineChecker x, int... values) {
        is(what, x.findingCount(), 1);
        Boundary.finding(what, x, 0, values);
    }

    // ---- promise 40

    private static void promise40NoFindings() {
        none("no panels", new DieLineChecker());
        DieLineChecker x = based(50, 50, 20, 20);
        is("a base has four open sides", x.findingCount(), 4);
        x.setWeight(0, 0);
        none("they are not listed", x);
    }

    private static void promise40ManyFindings() {
        // Ten panels of 1 by 1 folded onto each other are doubled in 45 pairs.
        DieLineChecker x = based(50, 50, 1, 1);
        for (int p = 0; p < 9; p++) {
            x.addPanel(p, 1, 0, 1, 1, 2);
        }
        is("pairs", x.findingCount(), 45);
        Boundary.finding("first", x, 0, 2, 0, NONE, 1, 1, 1);
        Boundary.finding("last", x, 44, 2, 8, NONE, 9, 1, 1);
        is("behind the last", x.finding(45, 0), BAD);
    }

    private static void promise40AllSeamsBreak() {
        // All ten panels lie on each other, and the images of any two are 22 units apart, or 21 where one is turned
        // over: with the tolerance 20 all 360 seams break.
        DieLineChecker x = based(50, 50, 1, 1);
        for (int p = 0; p < 9; p++) {
            x.addPanel(p, 1, 0, 1, 1, 2);
        }
        x.setLimit(0, 20);
        x.defineImage(0, 200, 200);
        for (int p = 0; p < 10; p++) {
            x.place(p, 0, 0, -1 - 22 * p, -50);
        }
        Boundary.only(x, 7);
        is("seams", x.seamCount(), 360);
        is("each is a finding", x.findingCount(), 360);
        is("the last finding", x.finding(359, 0), 7);
        is("behind it", x.finding(360, 0), BAD);
        int cost = 0;
        for (int k = 0; k < 360; k++) {
            cost += x.seam(k, 7);
        }
        is("the sum of all mismatches", x.totalCost(), cost);
    }

    // ---- promise 41

    private static void promise41Finding() {
        Boundary.Setup base = x -> x.setBase(50, 50, 20, 10);
        Boundary.range("finding", base, (x, v) -> x.finding(v, 2), 0, 0, 3, 3);
        Boundary.refused("no findings at all", Boundary.NOTHING, x -> x.finding(0, 0), BAD);
        int count = Boundary.made(States.RICH).findingCount();
        Boundary.refused("behind the last of RICH", States.RICH, x -> x.finding(count, 0), BAD);
        is("the last of RICH", Boundary.made(States.RICH).finding(count - 1, 0) >= 0 ? 1 : 0, 1);
    }

    private static void promise41WhatFrom0To5() {
        Boundary.Setup base = x -> {
            x.setBase(50, 50, 20, 10);
            x.setWeight(0, 4);
        };
        Boundary.range("what", base, (x, v) -> x.finding(3, v), 0, 0, 5, 40);
        int[] values = {0, 0, 3, NONE, 10, 40};
        for (int what = 0; what <= 5; what++) {
            int which = what;
            Boundary.taken("what " + what, base, x -> x.finding(3, which), values[what]);
        }
    }

    private static void promise41NoSideAndNoOtherPanel() {
        DieLineChecker x = based(50, 50, 20, 20);
        x.addPanel(0, 1, 0, 20, 10, 2);
        Boundary.only(x, 2);
        one("doubled has no side", x, 2, 0, NONE, 1, 200, 200);
        x.setFlap(1, 0);
        x.defineImage(0, 8, 8);
        x.place(1, 0, 0, 0, 0);
        Boundary.only(x, 6);
        one("ink has neither", x, 6, 1, NONE, NONE, 6, 6);
        Boundary.only(x, 3);
        one("glue has no side", x, 3, 1, NONE, 0, 80, 80);
    }

    // ---- promise 42

    private static void promise42NoFindings() {
        is("no panels", new DieLineChecker().totalCost(), 0);
        DieLineChecker x = based(50, 50, 20, 20);
        x.setWeight(0, 0);
        is("weight 0", x.totalCost(), 0);
        x.setWeight(0, 9);
        is("weight 9", x.totalCost(), 9 * 80);
    }

    private static void promise42GreatestCosts() {
        DieLineChecker x = new DieLineChecker();
        x.setSheet(300, 300);
        x.setBase(0, 0, 150, 300);
        x.addPanel(0, 1, 0, 300, 150, 2);
        x.setWeight(2, 9);
        one("the greatest area", x, 2, 0, NONE, 1, 45000, 405000);
        is("its cost", x.totalCost(), 405000);
        // Three strips on each other: three pairs of 100 by 300.
        DieLineChecker y = new DieLineChecker();
        y.setSheet(300, 300);
        y.setBase(0, 0, 100, 300);
        y.addPanel(0, 1, 0, 300, 100, 2);
        y.addPanel(1, 1, 0, 300, 100, 2);
        y.setWeight(2, 9);
        is("three pairs", y.totalCost(), 3 * 9 * 30000);
    }

    // ---- promise 43

    private static void promise43Panel() {
        Boundary.Setup pair = x -> {
            x.setBase(50, 50, 20, 20);
            x.addPanel(0, 1, 0, 20, 10, 1);
        };
        Boundary.range("panel", pair, (x, v) -> x.panelCost(v), 0, 60, 1, 40);
        Boundary.refused("no panels at all", Boundary.NOTHING, x -> x.panelCost(0), BAD);
    }

    private static void promise43PanelOrOtherPanel() {
        DieLineChecker x = based(50, 50, 20, 20);
        x.addPanel(0, 1, 0, 20, 10, 2);
        x.addPanel(0, 0, 0, 20, 5, 1);
        Boundary.only(x, 2);
        is("panel", x.panelCost(0), 200);
        is("other panel", x.panelCost(1), 200);
        is("neither", x.panelCost(2), 0);
    }

    // ---- promise 44

    private static void promise44PanelOtherThanTheBase() {
        Boundary.Setup two = x -> {
            x.setBase(50, 50, 20, 20);
            x.addPanel(0, 1, 0, 20, 10, 1);
            x.addPanel(0, 3, 0, 20, 7, 1);
            for (int kind = 0; kind < 8; kind++) {
                x.setWeight(kind, 0);
            }
        };
        Boundary.range("panel", two, (x, v) -> x.bestDepth(v), 1, 10, 2, 7);
        Boundary.refused("no panels at all", Boundary.NOTHING, x -> x.bestDepth(1), BAD);
    }

    private static void promise44DepthsFrom1To100() {
        // Without weights the nearest depth is best: from 101 on that is 100.
        for (int depth : new int[] {1, 2, 99, 100, 101, 140}) {
            DieLineChecker x = based(50, 50, 10, 20);
            x.addPanel(0, 1, 0, 20, depth, 1);
            for (int kind = 0; kind < 8; kind++) {
                x.setWeight(kind, 0);
            }
            is("depth " + depth, x.bestDepth(1), Math.min(depth, 100));
            is("nothing changes", x.flat(1, 2), depth);
        }
        // Every unit of depth costs 2 for the two free sides: 1 is best.
        DieLineChecker y = based(50, 50, 10, 20);
        y.addPanel(0, 1, 0, 20, 100, 1);
        is("the smallest depth", y.bestDepth(1), 1);
    }

    private static void promise44ValidDepthsOnly() {
        // 30 units of the sheet are left at the east side.
        DieLineChecker x = based(150, 50, 20, 20);
        x.addPanel(0, 1, 0, 20, 30, 1);
        for (int kind = 0; kind < 8; kind++) {
            x.setWeight(kind, 0);
        }
        is("up to the border", x.bestDepth(1), 30);
        // A panel on the north side of panel 1 with the offset 4 and the length 3 needs a depth of 7.
        x.addPanel(1, 2, 4, 3, 5, 1);
        x.setWeight(0, 1);
        is("not below 7", x.bestDepth(1), 7);
    }

    private static void promise44NotValidWithAnyOfThem() {
        // A panel on the north side of panel 1 needs as much depth as it is long.
        for (int length = 99; length <= 102; length++) {
            DieLineChecker x = based(10, 50, 20, 20);
            x.addPanel(0, 1, 0, 20, 120, 1);
            x.addPanel(1, 2, 0, length, 9, 1);
            Boundary.only(x, 0);
            is("length " + length, x.bestDepth(1), length <= 100 ? length : NONE);
        }
    }

    /** A panel whose image ends at the depth 12; only a bleed that is too short costs something. */
    private static DieLineChecker endsAt12(int bleed) {
        DieLineChecker x = based(50, 50, 20, 20);
        x.addPanel(0, 1, 0, 20, 12, 1);
        x.defineImage(0, 10, 10);
        x.place(1, 0, 0, 2, 2);
        x.setLimit(1, bleed);
        Boundary.only(x, 4);
        return x;
    }

    private static void promise44TheSmallestDifference() {
        // With the bleed 2 the depths 11 and 12 cost 1 and 2; 13 is nearer than 10.
        is("bleed 2", endsAt12(2).bestDepth(1), 13);
        is("bleed 0", endsAt12(0).bestDepth(1), 12);
    }

    private static void promise44OfSeveralTheSmaller() {
        // With the bleed 1 only the depth 12 costs something; 11 and 13 are equally near.
        is("bleed 1", endsAt12(1).bestDepth(1), 11);
    }

    private static void promise44TheSmallestCostGoesFirst() {
        DieLineChecker x = endsAt12(3);
        x.setSize(1, 2, 10);
        // 9 costs nothing, 10 costs 1, 11 2, 12 3, 13 nothing.
        is("from 10", x.bestDepth(1), 9);
        x.setSize(1, 2, 11);
        is("from 11, 9 and 13 are equally near", x.bestDepth(1), 9);
        x.setSize(1, 2, 12);
        is("from 12", x.bestDepth(1), 13);
    }

    // ---- promise 45

    private static void promise45PanelOtherThanTheBase() {
        Boundary.Setup two = x -> {
            x.setBase(50, 50, 20, 20);
            x.addPanel(0, 1, 0, 20, 10, -1);
            x.addPanel(0, 3, 0, 20, 7, 2);
            for (int kind = 0; kind < 8; kind++) {
                x.setWeight(kind, 0);
            }
        };
        Boundary.range("panel", two, (x, v) -> x.bestAngle(v), 1, -1, 2, 2);
        Boundary.refused("no panels at all", Boundary.NOTHING, x -> x.bestAngle(1), BAD);
    }

    private static void promise45ThePresentOne() {
        for (int angle = -1; angle <= 2; angle++) {
            DieLineChecker x = based(50, 50, 20, 20);
            x.addPanel(0, 1, 0, 20, 10, angle);
            for (int kind = 0; kind < 8; kind++) {
                x.setWeight(kind, 0);
            }
            is("all are equal, from " + angle, x.bestAngle(1), angle);
            x.setWeight(2, 1);
            // Doubled with 2, which costs 200; the others cost nothing.
            is("2 costs more, from " + angle, x.bestAngle(1), angle == 2 ? -1 : angle);
            is("nothing changes", x.setAngle(1, 0), angle);
        }
    }

    private static void promise45TheGreatestAngle() {
        // Folded back the panel covers the base, and all sides meet; with each other angle six sides are open.
        for (int angle = -1; angle <= 2; angle++) {
            DieLineChecker x = based(50, 50, 20, 20);
            x.addPanel(0, 1, 0, 20, 20, angle);
            Boundary.only(x, 0);
            is("from " + angle, x.bestAngle(1), 2);
        }
    }

    private static void promise45OfSeveralTheSmallest() {
        // A tray without its east side: up or down, that side can close it or not.
        DieLineChecker x = based(50, 50, 20, 20);
        x.addPanel(0, 2, 0, 20, 5, 1);
        x.addPanel(0, 1, 0, 20, 5, 0);
        x.addPanel(0, 3, 0, 20, 5, -1);
        Boundary.only(x, 0);
        // Folded back onto the base it would cost 100.
        x.setWeight(2, 1);
        // Panel 2 meets panel 1 with the angle 1 only.
        is("only 1 meets panel 1", x.bestAngle(2), 1);
        x.addPanel(0, 0, 0, 20, 5, -1);
        // Now it meets panel 4 with the angle -1, which is as good.
        is("-1 is as good and smaller", x.bestAngle(2), -1);
        x.setAngle(2, 1);
        is("but the present one stays", x.bestAngle(2), 1);
    }

    // ---- the section "Terms": kinds of findings

    private static void termsOpenAboveZero() {
        DieLineChecker x = based(50, 60, 20, 10);
        x.addPanel(0, 2, 3, 14, 5, 1);
        x.setLimit(0, 2);
        int before = x.findingCount();
        int last = 0;
        for (int k = 0; k < before; k++) {
            last += x.finding(k, 1) == 0 && x.finding(k, 2) == 2 ? x.finding(k, 4) : 0;
        }
        is("2 open", last, 2);
        x.setLimit(0, 3);
        is("nothing open", x.findingCount(), before - 1);
    }

    private static void termsOpenNotOfFlaps() {
        DieLineChecker x = based(50, 50, 20, 20);
        x.addPanel(0, 1, 0, 20, 10, 1);
        Boundary.only(x, 0);
        is("three sides each", x.findingCount(), 6);
        x.setFlap(1, 0);
        is("those of the base", x.findingCount(), 3);
    }

    private static void termsDoubledUnlessAFlapAndItsTarget() {
        DieLineChecker x = based(50, 50, 20, 20);
        x.addPanel(0, 1, 0, 20, 10, 2);
        x.addPanel(0, 2, 0, 20, 5, 1);
        Boundary.only(x, 2);
        one("no flap", x, 2, 0, NONE, 1, 200);
        x.setFlap(1, 2);
        one("a flap with another target", x, 2, 0, NONE, 1, 200);
        x.setFlap(1, 0);
        none("a flap on its target", x);
    }

    private static void termsGlueBelowTheLimit() {
        // The flap has 1 of its 9 units on the base: 11 percent.
        DieLineChecker x = based(50, 60, 20, 10);
        x.addPanel(0, 1, 0, 10, 1, 2);
        x.addPanel(1, 1, 0, 10, 9, 2);
        x.setFlap(2, 0);
        Boundary.only(x, 3);
        x.setLimit(3, 11);
        none("11 of 11", x);
        x.setLimit(3, 12);
        one("11 of 12", x, 3, 2, NONE, 0, 1, 1);
        x.setLimit(3, 100);
        one("11 of 100", x, 3, 2, NONE, 0, 89, 89);
        x.setFlap(2, 1);
        one("0 of 100", x, 3, 2, NONE, 1, 100, 100);
        x.setLimit(3, 0);
        none("0 of 0", x);
    }

    private static DieLineChecker printed(int px, int py) {
        DieLineChecker x = based(50, 50, 20, 20);
        x.defineImage(0, 60, 60);
        x.place(0, 0, 0, px, py);
        return x;
    }

    private static void termsBleedBelowTheLimit() {
        DieLineChecker x = printed(-10, -10);
        Boundary.only(x, 4);
        x.setLimit(1, 10);
        none("reach 10 of 10", x);
        x.setLimit(1, 11);
        is("reach 10 of 11", x.findingCount(), 2);
        Boundary.finding("reach 10 of 11", x, 0, 4, 0, 0, NONE, 1, 1);
        Boundary.finding("reach 10 of 11", x, 1, 4, 0, 3, NONE, 1, 1);
    }

    private static void termsBleedWithTheReach0() {
        DieLineChecker x = printed(0, -10);
        Boundary.only(x, 4);
        one("reach 0", x, 4, 0, 3, NONE, 3, 3);
        x.place(0, 0, 0, 1, -10);
        none("no reach", x);
        x.place(0, 0, 0, 0, -10);
        x.setLimit(1, 0);
        none("bleed 0", x);
        x.setLimit(1, 20);
        is("bleed 20, west", x.finding(0, 4), 20);
    }

    private static void termsBleedWhereAWholeSideIsFolds() {
        DieLineChecker x = printed(-1, -10);
        Boundary.only(x, 4);
        one("free", x, 4, 0, 3, NONE, 2, 2);
        x.addPanel(0, 3, 0, 19, 5, 1);
        one("all but 1", x, 4, 0, 3, NONE, 2, 2);
        x.addPanel(0, 3, 19, 1, 5, 1);
        none("two folds", x);
        x.setSize(1, 1, 18);
        one("a slit of 1 between two folds", x, 4, 0, 3, NONE, 2, 2);
    }

    private static void termsBleedAtItsOwnFold() {
        DieLineChecker x = based(50, 50, 20, 20);
        x.addPanel(0, 1, 5, 10, 8, 1);
        x.defineImage(0, 60, 60);
        x.place(1, 0, 0, -1, -10);
        Boundary.only(x, 4);
        none("reach 1 at the near side", x);
        x.place(1, 0, 0, -10, -1);
        one("reach 1 at a free side", x, 4, 1, 0, NONE, 2, 2);
        x.setFlap(1, 0);
        none("not of flaps", x);
    }

    /** A base with a panel that comes back beside its east side, from x 70 + offset on; the bleed is 3. */
    private static DieLineChecker hook(int offset, int length) {
        DieLineChecker x = based(50, 50, 20, 20);
        x.addPanel(0, 2, 0, 20, 5, 1);
        x.addPanel(1, 1, 0, 5, 20, 1);
        x.addPanel(2, 0, offset, length, 15, 1);
        x.defineImage(0, 60, 60);
        Boundary.only(x, 5);
        return x;
    }

    private static void termsIntrusionOfTheStrip() {
        for (int offset = 0; offset <= 4; offset++) {
            DieLineChecker x = hook(offset, 10);
            x.place(0, 0, 0, -5, -5);
            if (offset < 3) {
                one("offset " + offset, x, 5, 0, 1, 3, 3 - offset, 3 - offset);
            } else {
                none("offset " + offset, x);
            }
        }
        DieLineChecker x = hook(1, 1);
        x.place(0, 0, 0, -5, -5);
        one("a panel of 1 within the strip", x, 5, 0, 1, 3, 1, 1);
    }

    private static void termsIntrusionReachOrBleed() {
        DieLineChecker x = hook(0, 10);
        // The reach at the east side is 40 + px.
        x.place(0, 0, 0, -40, -5);
        none("reach 0", x);
        x.place(0, 0, 0, -39, -5);
        one("reach 1", x, 5, 0, 1, 3, 1, 1);
        x.place(0, 0, 0, -37, -5);
        one("reach 3", x, 5, 0, 1, 3, 3, 3);
        x.place(0, 0, 0, -36, -5);
        one("reach 4, bleed 3", x, 5, 0, 1, 3, 3, 3);
        x.setLimit(1, 4);
        one("reach 4, bleed 4", x, 5, 0, 1, 3, 4, 4);
        x.setLimit(1, 0);
        none("bleed 0", x);
    }

    private static void termsIntrusionAlongTheSide() {
        // Panel 3 is at y 55 to 70, from 5 to 20 of the base's east side.
        DieLineChecker x = hook(0, 10);
        x.defineImage(0, 60, 7);
        x.place(0, 0, 0, -5, -2);
        none("ink from 0 to 5", x);
        x.place(0, 0, 0, -5, -1);
        one("ink from 0 to 6", x, 5, 0, 1, 3, 3, 3);
        x.setSize(3, 2, 3);
        // Now panel 3 is at 17 to 20.
        x.place(0, 0, 0, -5, 10);
        none("ink from 10 to 17", x);
        x.place(0, 0, 0, -5, 11);
        one("ink from 11 to 18", x, 5, 0, 1, 3, 3, 3);
        x.setSize(2, 1, 4);
        x.setSize(2, 0, 1);
        x.place(0, 0, 0, -5, 18);
        // Panel 3 has moved up by 1; ink that goes beyond the north side does not count there.
        one("ink from 18 to 20", x, 5, 0, 1, 3, 3, 3);
    }

    private static void termsIntrusionAtTheBeginningOfTheSide() {
        // Panel 2 lies right of panel 1, which hangs on the south side: it ends where the base's east side begins.
        DieLineChecker x = based(50, 50, 20, 20);
        x.addPanel(0, 0, 0, 20, 5, 1);
        x.addPanel(1, 1, 0, 5, 20, 1);
        x.defineImage(0, 60, 60);
        x.place(0, 0, 0, -5, -10);
        Boundary.only(x, 5);
        none("below the side, where the image is too", x);
        x.addPanel(2, 2, 0, 10, 1, 1);
        one("the first unit of the side", x, 5, 0, 1, 3, 3, 3);
        x.place(0, 0, 0, -5, 0);
        one("ink from 0 on", x, 5, 0, 1, 3, 3, 3);
        x.place(0, 0, 0, -5, 1);
        none("ink from 1 on", x);
    }

    private static void termsIntrusionAtTheBeginningOfAnUpperSide() {
        // As before, at the base's north side: panel 1 hangs on the west side, and panel 2 on its north side.
        DieLineChecker x = based(50, 50, 20, 20);
        x.addPanel(0, 3, 0, 20, 5, 1);
        x.addPanel(1, 2, 0, 5, 20, 1);
        x.defineImage(0, 60, 60);
        x.place(0, 0, 0, -10, -5);
        Boundary.only(x, 5);
        none("left of the side, where the image is too", x);
        x.addPanel(2, 1, 0, 10, 1, 1);
        one("the first unit of the side", x, 5, 0, 2, 3, 3, 3);
        x.place(0, 0, 0, 0, -5);
        one("ink from 0 on", x, 5, 0, 2, 3, 3, 3);
        x.place(0, 0, 0, 1, -5);
        none("ink from 1 on", x);
    }

    private static void termsIntrusionNotOfPanelsThatHangThere() {
        DieLineChecker x = printed(-20, -20);
        x.addPanel(0, 1, 0, 20, 10, 1);
        Boundary.only(x, 5);
        none("a panel on this side", x);
        x.setSize(1, 2, 2);
        x.addPanel(1, 1, 0, 20, 10, 1);
        one("a panel behind it", x, 5, 0, 1, 2, 1, 1);
        x.setSize(1, 2, 3);
        none("a panel behind the strip", x);
        x.clearImage(0);
        x.place(1, 0, 0, -20, -20);
        none("the parent at the near side, a child at the other one", x);
        x.setSize(1, 2, 2);
        x.clearImage(1);
        x.place(2, 0, 0, -20, -20);
        one("the parent's parent", x, 5, 2, 3, 0, 1, 1);
    }

    private static void termsIntrusionBeyondTheSheet() {
        int[][] places = {{50, 3}, {177, 50}, {50, 177}, {3, 50}};
        int[][] outward = {{0, -1}, {1, 0}, {0, 1}, {-1, 0}};
        for (int side = 0; side < 4; side++) {
            for (int beyond = 0; beyond <= 3; beyond++) {
                DieLineChecker x = based(places[side][0] + beyond * outward[side][0],
                    places[side][1] + beyond * outward[side][1], 20, 20);
                x.defineImage(0, 60, 60);
                x.place(0, 0, 0, -20, -20);
                Boundary.only(x, 5);
                if (beyond == 0) {
                    none("the strip touches the border at side " + side, x);
                } else {
                    one("beyond the border at side " + side, x, 5, 0, side, NONE, beyond, beyond);
                }
            }
        }
    }

    private static void termsInkAboveTheGlueBleed() {
        for (int side = 0; side < 4; side++) {
            DieLineChecker x = based(50, 50, 20, 20);
            x.addPanel(0, side, 0, 20, 10, 1);
            x.setFlap(1, 0);
            x.defineImage(0, 8, 8);
            Boundary.only(x, 6);
            // The glue bleed is 2. The flap is 10 deep, and the image ends some units from its near side.
            int[] ends = {0, 1, 2, 3, 10, 17, 18};
            int[] amounts = {0, 0, 0, 1, 8, 8, 0};
            for (int i = 0; i < ends.length; i++) {
                int place = side == 1 || side == 2 ? ends[i] - 8 : 10 - ends[i];
                x.place(1, 0, 0, side % 2 == 1 ? place : 5, side % 2 == 1 ? 5 : place);
                if (amounts[i] == 0) {
                    none("side " + side + ", end " + ends[i], x);
                } else {
                    one("side " + side + ", end " + ends[i], x, 6, 1, NONE, NONE, amounts[i], amounts[i]);
                }
            }
        }
    }

    private static void termsBreakAboveTheTolerance() {
        DieLineChecker x = based(50, 60, 30, 30);
        x.addPanel(0, 1, 0, 30, 30, 1);
        x.defineImage(0, 200, 200);
        x.place(0, 0, 0, -100, -100);
        Boundary.only(x, 7);
        int[] limits = {0, 1, 2, 20};
        for (int tolerance : limits) {
            x.setLimit(0, tolerance);
            x.place(1, 0, 0, -130 + tolerance, -100);
            none("mismatch " + tolerance + " of " + tolerance, x);
            x.place(1, 0, 0, -130 + tolerance + 1, -100);
            one("mismatch " + (tolerance + 1) + " of " + tolerance, x, 7, 0, 1, 1, tolerance + 1, tolerance + 1);
        }
    }

    private static void termsWeightsFrom0To9() {
        DieLineChecker x = based(50, 60, 20, 10);
        for (int weight = 0; weight <= 9; weight++) {
            x.setWeight(0, weight);
            is("findings with the weight " + weight, x.findingCount(), weight == 0 ? 0 : 4);
            is("first cost with the weight " + weight, x.finding(0, 5), weight == 0 ? BAD : 20 * weight);
            is("first amount with the weight " + weight, x.finding(0, 4), weight == 0 ? BAD : 20);
        }
    }

    // ---- the section "Terms": the order of findings

    private static void termsOrderByCost() {
        // The amounts are 11, 10, 11, 10 (open) and 3 (bleed, with a weight).
        DieLineChecker x = based(50, 60, 11, 10);
        x.defineImage(0, 60, 60);
        x.place(0, 0, 0, 0, -20);
        x.setWeight(5, 0);
        x.setWeight(4, 3);
        is("findings", x.findingCount(), 5);
        Boundary.finding("11 first", x, 0, 0, 0, 0, NONE, 11, 11);
        Boundary.finding("cost 9 last", x, 4, 4, 0, 3, NONE, 3, 9);
        x.setWeight(4, 4);
        Boundary.finding("cost 12 first", x, 0, 4, 0, 3, NONE, 3, 12);
    }

    private static void termsOrderByKind() {
        // Open sides of 9 and a bleed of 3 with the weight 3 cost the same.
        DieLineChecker x = based(50, 60, 9, 9);
        x.defineImage(0, 60, 60);
        x.place(0, 0, 0, 0, -20);
        x.setWeight(4, 3);
        is("findings", x.findingCount(), 5);
        for (int side = 0; side < 4; side++) {
            Boundary.finding("kind 0, side " + side, x, side, 0, 0, side, NONE, 9, 9);
        }
        Boundary.finding("kind 4", x, 4, 4, 0, 3, NONE, 3, 9);
    }

    private static void termsOrderByPanelAndSide() {
        DieLineChecker x = based(50, 50, 20, 20);
        x.addPanel(0, 1, 0, 20, 20, 1);
        int[][] open = {{0, 0}, {0, 2}, {0, 3}, {1, 0}, {1, 1}, {1, 2}};
        is("findings", x.findingCount(), 6);
        for (int k = 0; k < 6; k++) {
            Boundary.finding("finding " + k, x, k, 0, open[k][0], open[k][1], NONE, 20, 20);
        }
    }

    private static void termsOrderByOtherPanel() {
        // All panels of 1 by 1 lie on each other; every pair costs 1.
        DieLineChecker x = based(50, 50, 1, 1);
        x.addPanel(0, 1, 0, 1, 1, 2);
        x.addPanel(0, 2, 0, 1, 1, 2);
        x.addPanel(0, 3, 0, 1, 1, 2);
        Boundary.only(x, 2);
        int[][] pairs = {{0, 1}, {0, 2}, {0, 3}, {1, 2}, {1, 3}, {2, 3}};
        is("findings", x.findingCount(), 6);
        for (int k = 0; k < 6; k++) {
            Boundary.finding("pair " + k, x, k, 2, pairs[k][0], NONE, pairs[k][1], 1, 1);
        }
    }

    private static void termsOrderNoneBeforeAllNumbers() {
        // The strip at x 70 to 73 meets panel 3, at x 71 to 72, by 1, and goes 1 beyond the sheet of 72.
        DieLineChecker x = based(50, 50, 20, 20);
        x.addPanel(0, 2, 0, 20, 5, 1);
        x.addPanel(1, 1, 0, 5, 2, 1);
        x.addPanel(2, 0, 1, 1, 15, 1);
        is("setSheet", x.setSheet(72, 200), 200);
        x.defineImage(0, 60, 60);
        x.place(0, 0, 0, -5, -5);
        Boundary.only(x, 5);
        is("findings", x.findingCount(), 2);
        Boundary.finding("the sheet", x, 0, 5, 0, 1, NONE, 1, 1);
        Boundary.finding("panel 3", x, 1, 5, 0, 1, 3, 1, 1);
    }
}
